/-! games of the reference: a part said, the last move that fits -/
def yPgm (x : Nat) (j : Int) : Prop := x = 98 ∧ (13 ≤ j ∧ j ≤ 17 ∨ j = 27 ∨ 30 ≤ j ∧ j ≤ 33 ∨ j = 7) ∨ x = 114 ∨ x = 115 ∨ x = 105 ∧ 64 ≤ j ∨ x = 106 ∧ 1 ≤ j ∨ x = 107 ∧ 512 ≤ j ∨ x = 108 ∧ 1 ≤ j
theorem yPgm_hold : ∀ x j, yHoldR x j → ¬ yPgm x j := fun x j q p => by unfold yHoldR at q; unfold yPgm at p; omega
theorem yPgm_fr {m m' : Nat → Int → Int} (h : yFq yPgm m m') : yFr 98 117 m m' := yFr_of h fun x j q => by unfold yPgm at q; omega
theorem yPgm_text : ∀ j, ¬ yPgm 103 j ∧ ¬ yPgm 104 j := fun j => by unfold yPgm; omega
def yFb (ps : List (List Int)) (v : Int) : Nat → Int
  | 0 => -1
  | k + 1 => if yFb ps v k = -1 then (if v < ySp ps (k + 1) then (k : Int) else -1) else yFb ps v k
theorem yFb_up {ps : List (List Int)} {v : Int} {i : Nat} (h : yFb ps v i ≠ -1) : ∀ k : Nat, yFb ps v (i + k) = yFb ps v i
  | 0 => rfl
  | k + 1 => by
    have ih := yFb_up h k
    show yFb ps v (i + k + 1) = _
    rw [yFb, ih, if_neg h]
theorem yFa_b {ps : List (List Int)} {v : Int} {d : Nat} : ∀ k : Nat, k ≤ d → yFb ps v (d - k) = -1 → yFa ps v d k = yFb ps v d
  | 0, h, e => e.symm
  | k + 1, h, e => by
    rw [yFa]
    obtain ⟨i, hi⟩ : ∃ i, d = i + k + 1 := ⟨d - k - 1, by omega⟩
    have e1 : d - k = i + 1 := by omega
    have e2 : d - (k + 1) = i := by omega
    rw [e2] at e
    have e3 : yFb ps v (i + 1) = if v < ySp ps (i + 1) then (i : Int) else -1 := by
      rw [yFb, if_pos e]
    rw [e1]
    by_cases g : v < ySp ps (i + 1)
    · rw [if_pos g] at e3 ⊢
      have := yFb_up (i := i + 1) (ps := ps) (v := v) (by rw [e3]; omega) k
      rw [show i + 1 + k = d by omega, e3] at this
      rw [this]
      rfl
    · rw [if_neg g] at e3 ⊢
      exact yFa_b k (by omega) (by rw [e1]; exact e3)
section ZR
variable {L : Nat} {m : Nat → Int → Int} (d : Nat)
theorem zk_289 {w : List Int} (h : yRt m 2 w) {i : Nat} (hi : i < (yPcs w).length) (h12 : (yPcs w).length ≤ 12) (hk : ∀ i : Nat, i ≤ (yPcs w).length → m 114 i = yOff (yPcs w) i) (hr : yRun 0 ((yPcs w).getD i []) 0 = -1) : ∃ m', zmD zP (d + 5) 289 [zr 98, zi i] (zW L m) = some (some (zi ((yPcs w).getD i []).length), zW L m') ∧ yFq yS5 m m' ∧ ∀ kind v, 0 ≤ kind ∧ kind ≤ 5 → 0 ≤ v ∧ v < 4096 → (yFitR (m' 98 13) (m' 98 14) (m' 98 15) (m' 98 16) (m' 98 17) kind v ↔ yFits ((yPcs w).getD i []) kind v) := by
  have hcap : w.length ≤ 60 := by
    have := h.2.2.1
    unfold yCap at this
    rw [if_neg (by decide)] at this
    split at this <;> omega
  obtain ⟨p1, p2, p3⟩ := yPcs_at w i hi
  obtain ⟨M1, s1, s2, s3⟩ := zk_219 (L := L) d h (yOff (yPcs w) i) (yOff (yPcs w) i + ((yPcs w).getD i []).length) (by omega) p1
  rw [show yOff (yPcs w) i + ((yPcs w).getD i []).length - yOff (yPcs w) i = ((yPcs w).getD i []).length by omega, p2] at s1 s3
  have h1 := hk i (by omega)
  have h2 := hk (i + 1) (by omega)
  rw [p3] at h2
  have h2' : m 114 ((i : Int) + 1) = yOff (yPcs w) i + ((yPcs w).getD i []).length + 1 := h2
  have e14 : M1 114 = m 114 := funext fun j => s2 114 j (by unfold yS5; omega)
  generalize yOff (yPcs w) i = o at *
  generalize (yPcs w).getD i [] = p at *
  have s1' : zmD zP (d + 4) 219 [zr 98, zi 2, zi o, zi ((o : Int) + p.length)] (zW L m) = some (some (zi (yRun 0 p o)), zW L M1) := s1
  rw [zen_289, zb_289_0, zgr_98_28, zbs, zai_114 (by omega) (by omega), zbs, h1, zbs, w32_of (z := (i : Int) + 1) (by omega) (by omega), zai_114 (by omega) (by omega), zbs, h2', w32_of (z := (o : Int) + p.length + 1 - 1) (by omega) (by omega), show (o : Int) + p.length + 1 - 1 = (o : Int) + p.length by omega, zcv_98, s1', zbs, zmG_v, zb_289_21, zgr_98_28, zbs, w32_of (z := (i : Int) + 1) (by omega) (by omega), zai_114 (by omega) (by omega), zbs, e14, h2', zbs, zai_114 (by omega) (by omega), zbs, e14, h1, w32_of (z := (o : Int) + p.length + 1 - 1) (by omega) (by omega), w32_of (by omega) (by omega)]
  refine ⟨M1, ?_, s2, s3 ((yRun_shift p 0 o (by decide) (by omega)).mp hr)⟩
  rw [show (o : Int) + p.length + 1 - 1 - o = p.length by omega]
/-- the last move of level 1 that fits -/
theorem zk_288f {xs : List Int} (hm : yRm m 1 xs) (ho : yOkv (zbd m 1) xs) (hB : zOkB (zbd m 1)) (v l2 l3 : Int) : ∀ k i : Nat, i + k = xs.length → zmE (zmD zP (d+7)) zc_288 (82, [some (zr 98), some (zi v), some (zi l2), some (zi l3), some (zi (((xs.take i).filter (yFw m (zbd m 1))).getLastD (-1))), some (zi i)], [], zW L m) = zmE (zmD zP (d+7)) zc_288 (82, [some (zr 98), some (zi v), some (zi l2), some (zi l3), some (zi ((xs.filter (yFw m (zbd m 1))).getLastD (-1))), some (zi (xs.length))], [], zW L m) := by
  intro k
  obtain ⟨m1, m2, m3⟩ := hm
  induction k with
  | zero =>
    intro i hi
    rw [show i = xs.length by omega, List.take_length]
  | succ k ih =>
    intro i hi
    obtain ⟨o1, o2, o3⟩ := yOkv_get ho (i := i) (by omega)
    have e := ih (i + 1) (by omega)
    have e3 := m3 i (by omega)
    rw [show (512 : Int) * 1 + i = 512 + i by omega] at e3
    rw [← e, zb_288_82, zgr_98_12, zbs, zai_108 (by decide) (by decide), zbs, m1, if_pos (by omega), zgr_98_11, zbs, w32_of (z := 512 + (i : Int)) (by omega) (by omega), zai_107 (by omega) (by omega), zbs, e3, zcv_98, zk_258 (d + 6) 1 _ (by decide) o1 (hB _ (by omega) (by omega)), zbs, zmG_v, zb_288_109, yfilt_take (by omega)]
    by_cases g : yFit9 m (zbd m 1) (xs.getD i 0)
    · rw [yT_pos g, if_neg (c := (1 : Int) = 0) (by decide), if_pos (yFw_t.mpr g), zgr_98_11, zbs, w32_of (z := 512 + (i : Int)) (by omega) (by omega), zai_107 (by omega) (by omega), zbs, e3, zb_288_128, w32_of (z := (i : Int) + 1) (by omega) (by omega), List.getLastD_concat]
      rfl
    · rw [yT_neg g, if_pos rfl, if_neg (fun q => g (yFw_t.mp q)), zb_288_128, w32_of (z := (i : Int) + 1) (by omega) (by omega), List.append_nil]
      rfl
end ZR
