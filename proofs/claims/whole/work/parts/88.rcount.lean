/-! what is counted, in the reference -/
section ZR
variable {L : Nat} {m : Nat → Int → Int} (d : Nat) {w : Int → List Int} {b : Int → Int} {c n e : Int} {W F : Int → Int} {Z : Int → List Int}
/-- the weight of the man that a move moves -/
theorem zk_269 (l v : Int) (hl : 0 ≤ l ∧ l < 3) (hv : 0 ≤ v ∧ v < 4096) {B : Int → Int} (hm : yAg (zbd m l) B) (hb : 1 ≤ B (v / 64) % 8 ∧ B (v / 64) % 8 ≤ 6) (hB : 0 ≤ B (v / 64) ∧ B (v / 64) ≤ 14) (hW : ∀ i : Int, 0 ≤ i → i < 6 → m 111 i = W i ∧ 0 ≤ W i ∧ W i ≤ 9) : zmD zP (d + 1) 269 [zr 98, zi l, zi v] (zW L m) = some (some (zi (yWm W B v)), zW L m) := by
  have e1 : m 105 (64 * l + v / 64) = B (v / 64) := hm (v / 64) (by omega) (by omega)
  rw [zen_269, zb_269_0, zgr_98_22, zbs, zgr_98_8, zbs, z_div_of hv.1 (by omega) (by decide), w32_of (z := 64 * l) (by omega) (by omega), w32_of (z := 64 * l + v / 64) (by omega) (by omega), zai_105 (by omega) (by omega), zbs, e1, z_rem_of hB.1 (by omega) (by decide) (by decide), w32_of (z := B (v / 64) % 8 - 1) (by omega) (by omega), zai_111 (by omega) (by omega), zbs, (hW _ (by omega) (by omega)).1]
  rfl
theorem zk_302s (P : Int → Bool) (a : Int) (ha : a = 0 ∧ P = yWB ∨ a = 1 ∧ P = yWt) (h : yRs m w b c n e W F Z) : zmE (zmD zP d) zc_302 (54, [some (zr 98), some (zi a), some (zi 0), some (zi 0)], [], zW L m) = some (some (zi (yCsq P b 64)), zW L m) := by
  suffices go : ∀ k i : Nat, i + k = 64 → zmE (zmD zP d) zc_302 (54, [some (zr 98), some (zi a), some (zi (yCsq P b i)), some (zi i)], [], zW L m) = some (some (zi (yCsq P b 64)), zW L m) from go 64 0 (by omega)
  intro k
  induction k with
  | zero =>
    intro i hi
    rw [zb_302_54, if_neg (by omega), show i = 64 by omega]
  | succ k ih =>
    intro i hi
    have q := yCsq_in (P := P) (b := b) i
    have e := ih (i + 1) (by omega)
    have e1 : m 105 i = b i := by
      have := h.2.1.2.1 i (by omega) (by omega)
      unfold zbd at this
      rw [Int.mul_zero, Int.zero_add] at this
      exact this
    rw [yCsq_s] at e
    have fin : ∀ x : Int, x = (if P (b i) = true then 1 else 0) → zmE (zmD zP d) zc_302 (90, [some (zr 98), some (zi a), some (zi (yCsq P b i)), some (zi i)], [zi x, zi (yCsq P b i)], zW L m) = some (some (zi (yCsq P b 64)), zW L m) := fun x hx => by
      have : 0 ≤ x ∧ x ≤ 1 := by rw [hx]; split <;> omega
      rw [zb_302_90, w32_of (z := yCsq P b i + x) (by omega) (by omega), w32_of (z := (i : Int) + 1) (by omega) (by omega), hx]
      exact e
    rw [zb_302_54, if_pos (by omega), zgr_98_8, zbs, zai_105 (by omega) (by omega), zbs, e1]
    rcases ha with ⟨ha, rfl⟩ | ⟨ha, rfl⟩
    · by_cases g : 0 < b i
      · rw [if_pos g, if_pos ha, zb_302_85]
        exact fin 1 (if_pos (decide_eq_true g)).symm
      · rw [if_neg g, zb_302_89]
        exact fin 0 (if_neg (fun q => g (of_decide_eq_true q))).symm
    · by_cases g : 0 < b i
      · rw [if_pos g, if_neg (by omega), zbs, zai_105 (by omega) (by omega), zbs, e1]
        by_cases g2 : b i < 8
        · rw [if_pos g2, zb_302_85]
          exact fin 1 (if_pos (decide_eq_true ⟨g, g2⟩)).symm
        · rw [if_neg g2, zb_302_89]
          exact fin 0 (if_neg (fun q => g2 (of_decide_eq_true q).2)).symm
      · rw [if_neg g, zb_302_89]
        exact fin 0 (if_neg (fun q => g (of_decide_eq_true q).1)).symm
theorem yRs_W (h : yRs m w b c n e W F Z) : ∀ i : Int, 0 ≤ i → i < 6 → m 111 i = W i ∧ 0 ≤ W i ∧ W i ≤ 9 := h.2.2.2.1
theorem yr_302 (h : yRs m w b c n e W F Z) (a : Int) : ∃ m', zmD zP (d + 9) 302 [zr 98, zi a] (zW L m) = some (some (zi (yCoun w b c n e W a)), zW L m') ∧ yFr 98 117 m m' ∧ yRs m' w b c n e W F Z := by
  have hpu := h.2.1.1
  have hok := yPu_ok hpu
  unfold yCoun
  rw [zen_302, zb_302_0]
  have stay : ∀ {e0 : Option zmR} {x : Int}, e0 = some (some (zi x), zW L m) → ∃ m', e0 = some (some (zi x), zW L m') ∧ yFr 98 117 m m' ∧ yRs m' w b c n e W F Z := fun q => ⟨m, q, yFr_rfl, h⟩
  by_cases g0 : a = 0
  · rw [if_pos g0, if_pos g0]
    apply stay
    rw [zk_302s (d + 8) yWB a (.inl ⟨g0, rfl⟩) h, yCsq_sum 64 fun s h1 h2 => hpu.2.2.1 s h1 (by omega)]
  rw [if_neg g0, if_neg g0]
  by_cases g1 : a = 1
  · rw [if_pos g1, if_pos g1]
    apply stay
    rw [zk_302s (d + 8) yWt a (.inr ⟨g1, rfl⟩) h]
  rw [if_neg g1, if_neg g1]
  by_cases g2 : a = 2
  · rw [if_pos g2, if_pos g2]
    apply stay
    rw [zgr_98_6, zbs, g2, w32_of (by omega) (by omega), zai_104 (by omega) (by omega), zbs, show (2 : Int) - 2 = 0 from rfl, h.1.1.2.1]
  rw [if_neg g2, if_neg g2]
  by_cases g3 : a = 3
  · rw [if_pos g3, if_pos g3]
    apply stay
    rw [zgr_98_6, zbs, g3, w32_of (by omega) (by omega), zai_104 (by omega) (by omega), zbs, show (3 : Int) - 2 = 1 from rfl, h.1.2.1.2.1]
  rw [if_neg g3, if_neg g3]
  by_cases g4 : a = 4
  · rw [if_pos g4, if_pos g4]
    apply stay
    rw [zgr_98_6, zbs, g4, w32_of (by omega) (by omega), zai_104 (by omega) (by omega), zbs, show (4 : Int) - 2 = 2 from rfl, h.1.2.2.2.1]
  rw [if_neg g4, if_neg g4]
  by_cases g5 : a = 5
  · rw [if_pos g5, if_pos g5]
    apply stay
    rw [zgi_98, zbs, h.2.2.1.1]
  rw [if_neg g5, if_neg g5]
  by_cases g6 : a = 6
  · obtain ⟨M, r1, r2, r3, r4, r5⟩ := zk_223 (L := L) (d + 3) h.1.2.2
    have e1 : M 98 27 = (yGa (w 2)).length := by
      by_cases k1 : w 2 = []
      · rw [yGa_no (.inl k1), r3 k1]
        rfl
      by_cases k2 : yGf (w 2) = -1
      · have := (r4 k1 k2).1
        rw [yGa_ok k1 k2]
        omega
      · rw [yGa_no (.inr k2), r5 k2]
        rfl
    rw [if_pos g6, if_pos g6, zcv_98, r1, zbs, zmG_v, zb_302_118, zgi_98, zbs, e1]
    exact ⟨M, rfl, yPg_fr r2, yRs_fr h r2 yPg_hold⟩
  rw [if_neg g6, if_neg g6]
  by_cases g7 : a = 7
  · obtain ⟨M, r1, r2, r3, r4⟩ := yr_now (L := L) (d + 2) h
    have hle := r4.2.1
    have hw : ∀ v ∈ yMv b c, 0 ≤ yWm W b v ∧ yWm W b v ≤ 9 := fun v hv => by
      obtain ⟨v1, v2, v3⟩ := hok v hv
      exact (h.2.2.2.1 _ (by omega) (by omega)).2
    rw [if_pos g7, if_pos g7, zcv_98, r1, zbs, zmG_n, zb_302_129]
    refine ⟨M, ?_, yPm_fr r2, r3⟩
    suffices go : ∀ k i : Nat, i + k = (yMv b c).length → zmE (zmD zP (d+8)) zc_302 (131, [some (zr 98), some (zi a), some (zi (ySumL (yWm W b) ((yMv b c).take i))), some (zi i)], [], zW L M) = some (some (zi (ySumL (yWm W b) (yMv b c))), zW L M) from go (yMv b c).length 0 (by omega)
    intro k
    induction k with
    | zero =>
      intro i hi
      rw [zb_302_131, zgr_98_12, zbs, zai_108 (by decide) (by decide), zbs, r4.1, if_neg (by omega), show i = (yMv b c).length by omega, List.take_length]
    | succ k ih =>
      intro i hi
      obtain ⟨o1, o2, o3⟩ := yOkv_get hok (i := i) (by omega)
      have hs := ySumL_in (f := yWm W b) (c := 9) ((yMv b c).take i) fun x hx => hw x (List.mem_of_mem_take hx)
      have hli : ((yMv b c).take i).length ≤ 512 := by rw [List.length_take]; omega
      have hx := hw _ (yMem_get.mpr ⟨i, by omega, rfl⟩)
      have q := ih (i + 1) (by omega)
      rw [ySumL_take (f := yWm W b) (show i < (yMv b c).length by omega)] at q
      rw [zb_302_131, zgr_98_12, zbs, zai_108 (by decide) (by decide), zbs, r4.1, if_pos (by omega), zgr_98_11, zbs, zai_107 (by omega) (by omega), zbs, yRm_at r4 (by omega), zcv_98, zk_269 (d + 7) 0 _ (by decide) o1 r3.2.1.2.1 ⟨o2, o3⟩ (r3.2.1.1.1 _ (by omega) (by omega)) (yRs_W r3), zbs, zmG_v, zb_302_153, w32_of (z := ySumL (yWm W b) ((yMv b c).take i) + yWm W b ((yMv b c).getD i 0)) (by omega) (by omega), w32_of (z := (i : Int) + 1) (by omega) (by omega)]
      exact q
  rw [if_neg g7, if_neg g7]
  by_cases g8 : a = 8
  · rw [if_pos g8, if_pos g8]
    apply stay
    rw [zgi_98, zbs, h.2.2.1.2]
  · rw [if_neg g8, if_neg g8]
    exact stay rfl
end ZR
