/-! findMoves of the reference -/
noncomputable def yMvs (b : Int → Int) (c : Int) : Nat → List Int
  | 0 => []
  | n + 1 => if yT (yLaw b c ((n : Int) / 64) ((n : Int) % 64)) = 1 then yMvs b c n ++ [(n : Int)] else yMvs b c n
theorem yMvs_succ {b : Int → Int} {c : Int} (n : Nat) : yMvs b c (n + 1) = if yT (yLaw b c ((n : Int) / 64) ((n : Int) % 64)) = 1 then yMvs b c n ++ [(n : Int)] else yMvs b c n := rfl
noncomputable def yMv (b : Int → Int) (c : Int) : List Int := yMvs b c 4096
theorem yMvs_mono {b : Int → Int} {c : Int} (n : Nat) : ∀ k : Nat, (yMvs b c n).length ≤ (yMvs b c (n + k)).length
  | 0 => Nat.le_refl _
  | k + 1 => by
    refine Nat.le_trans (yMvs_mono n k) ?_
    rw [← Nat.add_assoc, yMvs_succ]
    split
    · rw [List.length_append]
      exact Nat.le_add_right _ _
    · exact Nat.le_refl _
theorem yMvs_le {b : Int → Int} {c : Int} {n : Nat} (h : n ≤ 4096) : (yMvs b c n).length ≤ (yMv b c).length := by
  have := yMvs_mono (b := b) (c := c) n (4096 - n)
  rw [show n + (4096 - n) = 4096 by omega] at this
  exact this
theorem yMvs_skip {b : Int → Int} {c : Int} (i : Nat) (h : zcol (b i) ≠ c) : ∀ j : Nat, j ≤ 64 → yMvs b c (64 * i + j) = yMvs b c (64 * i)
  | 0, _ => rfl
  | j + 1, hj => by
    have e := yMvs_skip i h j (by omega)
    rw [← Nat.add_assoc, yMvs_succ, if_neg, e]
    intro q
    have hd : ((64 * i + j : Nat) : Int) / 64 = i := by omega
    rw [hd] at q
    by_cases g : yLaw b c i (((64 * i + j : Nat) : Int) % 64)
    · exact h g.1.1
    · rw [yT_neg g] at q
      exact absurd q (by decide)
/-- a row laid into the list -/
def yLst (m : Nat → Int → Int) (base : Int) (xs : List Int) : Nat → Int → Int := fun a j => if a = 107 ∧ base ≤ j ∧ j < base + xs.length then xs.getD (j - base).toNat 0 else m a j
theorem yLst_nil {m : Nat → Int → Int} {base : Int} : yLst m base [] = m := by
  funext a j
  unfold yLst
  rw [if_neg]
  rintro ⟨-, h1, h2⟩
  have : ((([] : List Int).length : Nat) : Int) = 0 := rfl
  omega
theorem yLst_ne {m : Nat → Int → Int} {base : Int} {xs : List Int} {a : Nat} (h : a ≠ 107) : yLst m base xs a = m a := by
  funext j
  unfold yLst
  rw [if_neg (fun q => h q.1)]
theorem yLst_add {m : Nat → Int → Int} {base : Int} {xs : List Int} {c : Int} : yLst m base (xs ++ [c]) = zup (yLst m base xs) 107 (base + xs.length) c := by
  funext a j
  unfold yLst zup
  rw [List.length_append, Int.natCast_add]
  dsimp only
  rw [show ((([c] : List Int).length : Nat) : Int) = 1 from rfl]
  by_cases h : a = 107 ∧ j = base + xs.length
  · obtain ⟨rfl, rfl⟩ := h
    rw [if_pos ⟨rfl, by omega, by omega⟩, if_pos ⟨rfl, rfl⟩, show (base + (xs.length : Int) - base).toNat = xs.length by omega, List.getD_eq_getElem?_getD, List.getElem?_append_right (Nat.le_refl _), Nat.sub_self]
    rfl
  · rw [if_neg h]
    by_cases h2 : a = 107 ∧ base ≤ j ∧ j < base + xs.length
    · rw [if_pos ⟨h2.1, h2.2.1, by omega⟩, if_pos h2, List.getD_eq_getElem?_getD, List.getD_eq_getElem?_getD, List.getElem?_append_left (by omega)]
    · rw [if_neg h2, if_neg]
      rintro ⟨h3, h4, h5⟩
      by_cases h6 : j = base + xs.length
      · exact h ⟨h3, h6⟩
      · exact h2 ⟨h3, h4, by omega⟩
theorem zbd_lst {m : Nat → Int → Int} {base l : Int} {xs : List Int} : zbd (yLst m base xs) l = zbd m l := by
  unfold zbd
  rw [yLst_ne (by decide)]
section ZR
variable {L : Nat} {m : Nat → Int → Int} (d : Nat)
theorem zk_232 (l : Int) (hl : 0 ≤ l ∧ l < 3) (hB : zOkB (zbd m l)) (hc : m 106 l = 0 ∨ m 106 l = 8) (hn : (yMv (zbd m l) (m 106 l)).length ≤ 512) : zmD zP (d + 6) 232 [zr 98, zi l] (zW L m) = some (none, zW L (zup (yLst m (512 * l) (yMv (zbd m l) (m 106 l))) 108 l (yMv (zbd m l) (m 106 l)).length)) := by
  rw [zen_232, zb_232_0]
  generalize hb0 : zbd m l = b at *
  generalize hc0 : m 106 l = c at *
  have inner : ∀ (i : Nat), i < 64 → zcol (b i) = c → ∀ k j : Nat, j + k = 64 → zmE (zmD zP (d + 5)) zc_232 (43, [some (zr 98), some (zi l), some (zi (yMvs b c (64 * i + j)).length), some (zi i), some (zi 1), some (zi j)], [], zW L (yLst m (512 * l) (yMvs b c (64 * i + j)))) = zmE (zmD zP (d + 5)) zc_232 (94, [some (zr 98), some (zi l), some (zi (yMvs b c (64 * i + 64)).length), some (zi i), some (zi 1), some (zi 64)], [], zW L (yLst m (512 * l) (yMvs b c (64 * i + 64)))) := by
    intro i hi hown k
    induction k with
    | zero =>
      intro j hj
      have : j = 64 := by omega
      subst this
      rw [zb_232_43, if_neg (by omega)]
      rfl
    | succ k ih =>
      intro j hj
      have e := ih (j + 1) (by omega)
      rw [Int.natCast_succ] at e
      have hle : (yMvs b c (64 * i + j)).length ≤ 512 := Nat.le_trans (yMvs_le (by omega)) hn
      rw [zb_232_43, if_pos (by omega), if_neg (by decide), zcv_98, zk_234 _ l i j ⟨hl.1, by omega⟩ ⟨by omega, by omega⟩ ⟨by omega, by omega⟩ (by rw [zbd_lst, hb0]; exact hB) (by rw [yLst_ne (by decide), hc0]; exact hc), zbs, zmG_v, zb_232_63, zbd_lst, yLst_ne (by decide), hb0, hc0]
      have hs : yMvs b c (64 * i + (j + 1)) = if yT (yLaw b c i j) = 1 then yMvs b c (64 * i + j) ++ [((64 * i + j : Nat) : Int)] else yMvs b c (64 * i + j) := by
        rw [← Nat.add_assoc, yMvs_succ, show ((64 * i + j : Nat) : Int) / 64 = i by omega, show ((64 * i + j : Nat) : Int) % 64 = j by omega]
      rw [hs] at e
      by_cases g : yLaw b c i j
      · have hs2 := hs
        rw [yT_pos g, if_pos rfl] at e hs2
        have hle2 : (yMvs b c (64 * i + (j + 1))).length ≤ 512 := Nat.le_trans (yMvs_le (by omega)) hn
        rw [hs2, List.length_append] at hle2
        have hle3 : (yMvs b c (64 * i + j)).length + 1 ≤ 512 := hle2
        rw [yLst_add, List.length_append, Int.natCast_add] at e
        rw [yT_pos g, if_neg (by decide), zgr_98_11, zbs, w32_of (z := 512 * l) (by omega) (by omega), w32_of (z := 512 * l + _) (by omega) (by omega), w32_of (z := 64 * (i : Int)) (by omega) (by omega), w32_of (z := 64 * (i : Int) + j) (by omega) (by omega), w32_of (z := _ + 1) (by omega) (by omega), zsi_107 (by omega) (by omega), zbs, zb_232_88, w32_of (by omega) (by omega)]
        refine Eq.trans ?_ e
        rfl
      · rw [yT_neg g, if_neg (by decide)] at e
        rw [yT_neg g, if_pos rfl, zb_232_88, w32_of (by omega) (by omega), e]
  have outer : ∀ k i : Nat, i + k = 64 → ∀ o4 o5, zmE (zmD zP (d + 5)) zc_232 (4, [some (zr 98), some (zi l), some (zi (yMvs b c (64 * i)).length), some (zi i), o4, o5], [], zW L (yLst m (512 * l) (yMvs b c (64 * i)))) = some (none, zW L (zup (yLst m (512 * l) (yMv b c)) 108 l (yMv b c).length)) := by
    intro k
    induction k with
    | zero =>
      intro i hi o4 o5
      have : i = 64 := by omega
      subst this
      rw [zb_232_4, if_neg (by omega), zgr_98_12, zbs, zsi_108 hl.1 (by omega), zbs]
      rfl
    | succ k ih =>
      intro i hi o4 o5
      have e := ih (i + 1) (by omega)
      rw [Int.natCast_succ] at e
      have e1 : m 105 (64 * l + i) = b i := by rw [← hb0]; rfl
      rw [zb_232_4, if_pos (by omega), zgr_98_8, zbs, w32_of (z := 64 * l) (by omega) (by omega), w32_of (z := 64 * l + _) (by omega) (by omega), zai_105 (by omega) (by omega), zbs, yLst_ne (by decide), e1, zk_233, zbs, zmG_v, zb_232_24, zgr_98_9, zbs, zai_106 hl.1 (by omega), zbs, yLst_ne (by decide), hc0]
      by_cases g : zcol (b i) = c
      · have e2 := inner i (by omega) g 64 0 rfl
        rw [if_pos g, zb_232_38]
        refine e2.trans ?_
        rw [zb_232_94, w32_of (by omega) (by omega)]
        exact e _ _
      · have e2 := yMvs_skip i g 64 (Nat.le_refl _)
        have e3 : 64 * (i + 1) = 64 * i + 64 := by omega
        rw [if_neg g, zb_232_38, zb_232_43, if_pos (by decide), if_pos rfl, zb_232_94, w32_of (by omega) (by omega)]
        have e4 := e (some (zi 0)) (some (zi 0))
        rw [e3, e2] at e4
        exact e4
  have e := outer 64 0 rfl none none
  refine Eq.trans ?_ e
  show _ = zmE (zmD zP (d + 5)) zc_232 (4, [some (zr 98), some (zi l), some (zi 0), some (zi 0), none, none], [], zW L (yLst m (512 * l) []))
  rw [yLst_nil]
end ZR
