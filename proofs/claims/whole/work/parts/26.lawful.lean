/-! puts, isLawful of the reference -/
def yPutM (m : Nat → Int → Int) (l f t : Int) : Nat → Int → Int := zup (zup m 105 (64 * l + t) (yCrown (m 105 (64 * l + f)) t)) 105 (64 * l + f) 0
theorem zbd_putM {m : Nat → Int → Int} {l f t : Int} (hf : 0 ≤ f ∧ f < 64) (ht : 0 ≤ t ∧ t < 64) : zbd (yPutM m l f t) l = yPut (zbd m l) f t := by
  funext s
  unfold zbd yPutM yPut zup
  by_cases h1 : s = f
  · rw [if_pos ⟨rfl, by omega⟩, if_pos h1]
  · rw [if_neg (fun q => h1 (by omega)), if_neg h1]
    by_cases h2 : s = t
    · rw [if_pos ⟨rfl, by omega⟩, if_pos h2]
    · rw [if_neg (fun q => h2 (by omega)), if_neg h2]
theorem yPutM_ne {m : Nat → Int → Int} {l f t : Int} {a : Nat} (h : a ≠ 105) : yPutM m l f t a = m a := by
  funext j
  unfold yPutM zup
  rw [if_neg (fun q => h q.1), if_neg (fun q => h q.1)]
section ZR
variable {L : Nat} {m : Nat → Int → Int} (d : Nat)
theorem zk_241 (l f t : Int) (hl : 0 ≤ l ∧ l < 4) (hf : 0 ≤ f ∧ f < 64) (ht : 0 ≤ t ∧ t < 64) (hB : zOkB (zbd m l)) : zmD zP (d + 1) 241 [zr 98, zi l, zi f, zi t] (zW L m) = some (none, zW L (yPutM m l f t)) := by
  have hb : 0 ≤ m 105 (64 * l + f) ∧ m 105 (64 * l + f) ≤ 14 := hB f hf.1 hf.2
  rw [zen_241, zb_241_0, zgr_98_8, zbs, w32_of (z := 64 * l) (by omega) (by omega), w32_of (z := 64 * l + f) (by omega) (by omega), zai_105 (by omega) (by omega), zbs, z_div_of ht.1 (by omega) (by decide)]
  have last : ∀ v x, zmE (zmD zP d) zc_241 (73, [some (zr 98), some (zi l), some (zi f), some (zi t), some (zi (m 105 (64 * l + f))), some (zi x)], [zi v, zi (64 * l + t), zr 105], zW L m) = some (none, zW L (zup (zup m 105 (64 * l + t) v) 105 (64 * l + f) 0)) := fun v x => by
    rw [zb_241_73, zsi_105 (by omega) (by omega), zbs, zgr_98_8, zbs, w32_of (z := 64 * l) (by omega) (by omega), w32_of (z := 64 * l + f) (by omega) (by omega), zsi_105 (by omega) (by omega), zbs]
  have yes : zmE (zmD zP d) zc_241 (42, [some (zr 98), some (zi l), some (zi f), some (zi t), some (zi (m 105 (64 * l + f))), none], [], zW L m) = some (none, zW L (zup (zup m 105 (64 * l + t) (m 105 (64 * l + f) + 4)) 105 (64 * l + f) 0)) := by
    rw [zb_241_42, zb_241_47, zgr_98_8, zbs, if_neg (by decide), w32_of (z := 64 * l) (by omega) (by omega), w32_of (z := 64 * l + t) (by omega) (by omega), w32_of (by omega) (by omega), last]
  have no : zmE (zmD zP d) zc_241 (46, [some (zr 98), some (zi l), some (zi f), some (zi t), some (zi (m 105 (64 * l + f))), none], [], zW L m) = some (none, zW L (zup (zup m 105 (64 * l + t) (m 105 (64 * l + f))) 105 (64 * l + f) 0)) := by
    rw [zb_241_46, zb_241_47, zgr_98_8, zbs, if_pos rfl, w32_of (z := 64 * l) (by omega) (by omega), w32_of (z := 64 * l + t) (by omega) (by omega), last]
  have mid : ¬ (m 105 (64 * l + f) = 1 ∧ t / 8 = 7) → zmE (zmD zP d) zc_241 (28, [some (zr 98), some (zi l), some (zi f), some (zi t), some (zi (m 105 (64 * l + f))), none], [], zW L m) = some (none, zW L (yPutM m l f t)) := fun h => by
    unfold yPutM yCrown
    rw [zb_241_28, z_div_of ht.1 (by omega) (by decide)]
    by_cases g : m 105 (64 * l + f) = 9
    · rw [if_pos g]
      by_cases g2 : t / 8 = 0
      · rw [if_pos g2, if_pos (.inr ⟨g, g2⟩)]
        exact yes
      · rw [if_neg g2, if_neg (by omega)]
        exact no
    · rw [if_neg g, if_neg (by omega)]
      exact no
  by_cases g : m 105 (64 * l + f) = 1
  · rw [if_pos g]
    by_cases g2 : t / 8 = 7
    · rw [if_pos g2]
      unfold yPutM yCrown
      rw [if_pos (.inl ⟨g, g2⟩)]
      exact yes
    · rw [if_neg g2]
      exact mid (fun q => g2 q.2)
  · rw [if_neg g]
    exact mid (fun q => g q.1)
theorem zk_234 (l f t : Int) (hl : 0 ≤ l ∧ l < 4) (hf : 0 ≤ f ∧ f < 64) (ht : 0 ≤ t ∧ t < 64) (hB : zOkB (zbd m l)) (hc : m 106 l = 0 ∨ m 106 l = 8) : zmD zP (d + 5) 234 [zr 98, zi l, zi f, zi t] (zW L m) = some (some (zi (yT (yLaw (zbd m l) (m 106 l) f t))), zW L m) := by
  have back : ∀ h : f ≠ t, zup (zup (yPutM m l f t) 105 (64 * l + f) (m 105 (64 * l + f))) 105 (64 * l + t) (m 105 (64 * l + t)) = m := fun h => by
    funext a j
    unfold yPutM zup
    by_cases ha : a = 105
    · subst ha
      by_cases h1 : j = 64 * l + t
      · rw [if_pos ⟨rfl, h1⟩, h1]
      · rw [if_neg (fun q => h1 q.2)]
        by_cases h2 : j = 64 * l + f
        · rw [if_pos ⟨rfl, h2⟩, h2]
        · rw [if_neg (fun q => h2 q.2), if_neg (fun q => h2 q.2), if_neg (fun q => h1 q.2)]
    · rw [if_neg (fun q => ha q.1), if_neg (fun q => ha q.1), if_neg (fun q => ha q.1), if_neg (fun q => ha q.1)]
  rw [zen_234, zb_234_0, zcv_98, zk_235 _ _ _ _ hl hf ht hB, zbs, zmG_v, zb_234_7]
  by_cases g : yMay (zbd m l) (m 106 l) f t
  · have hne : f ≠ t := fun q => by
      subst q
      exact g.2.1 g.1
    rw [yT_pos g, if_neg (by decide), zgr_98_8, zbs, w32_of (z := 64 * l) (by omega) (by omega), w32_of (z := 64 * l + f) (by omega) (by omega), zai_105 (by omega) (by omega), zbs, zbs, w32_of (z := 64 * l + t) (by omega) (by omega), zai_105 (by omega) (by omega), zbs, zcv_98, zk_241 _ _ _ _ hl hf ht hB, zbs, zmG_n, zb_234_45, zgr_98_9, zbs, zai_106 hl.1 hl.2, zbs, zcv_98, yPutM_ne (by decide), zk_242 _ _ _ hl hc (by rw [zbd_putM hf ht]; exact zOkB_put hB hf), zbs, zmG_v, zb_234_56, zbd_putM hf ht]
    have last : ∀ x, (x = 0 ∨ x = 1) → zmE (zmD zP (d + 4)) zc_234 (64, [some (zr 98), some (zi l), some (zi f), some (zi t), some (zi (m 105 (64 * l + f))), some (zi (m 105 (64 * l + t))), none], [zi x], zW L (yPutM m l f t)) = some (some (zi x), zW L m) := fun x hx => by
      rw [zb_234_64, zgr_98_8, zbs, w32_of (z := 64 * l) (by omega) (by omega), w32_of (z := 64 * l + f) (by omega) (by omega), zsi_105 (by omega) (by omega), zbs, zgr_98_8, zbs, w32_of (z := 64 * l + t) (by omega) (by omega), zsi_105 (by omega) (by omega), zbs, if_pos hx, back hne]
    by_cases g2 : yAtt (yPut (zbd m l) f t) (m 106 l)
    · rw [yT_pos g2, if_neg (by decide), last 0 (.inl rfl), yT_neg (fun q => q.2 g2)]
    · rw [yT_neg g2, if_pos rfl, last 1 (.inr rfl), yT_pos ⟨g, g2⟩]
  · rw [yT_neg g, if_pos rfl, yT_neg (fun q => g q.1)]
end ZR
