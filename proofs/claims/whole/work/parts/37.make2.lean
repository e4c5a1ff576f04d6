/-! make of the class -/
theorem z_bits4096 : ∀ i : Nat, i < 64 → ∀ j : Nat, j < 64 → z_and ((64 * i + j : Nat) : Int) 63 = j ∧ z_shr ((64 * i + j : Nat) : Int) 6 = i := by decide +kernel
theorem z_and63 {s : Int} (h : 0 ≤ s ∧ s < 4096) : z_and s 63 = s % 64 ∧ z_shr s 6 = s / 64 := by
  have := z_bits4096 (s.toNat / 64) (by omega) (s.toNat % 64) (by omega)
  rw [show ((64 * (s.toNat / 64) + s.toNat % 64 : Nat) : Int) = s by omega, show ((s.toNat % 64 : Nat) : Int) = s % 64 by omega, show ((s.toNat / 64 : Nat) : Int) = s / 64 by omega] at this
  exact this
def yCrC (v t : Int) : Int := if v = 1 ∧ t / 8 = 7 then 5 else if v = -1 ∧ t / 8 = 0 then -5 else v
def yMk1 (m : Nat → Int → Int) (a : Nat) (t : Int) : Nat → Int → Int := if t = m a 2 then zup m a 2 (-1) else if t = m a 3 then zup m a 3 (-1) else m
def yMkC (m : Nat → Int → Int) (a e : Nat) (f t : Int) : Nat → Int → Int := yPt (zup (yMk1 m a t) e f 0) a e t (yCrC (m e f) t)
section ZR
variable {L a e : Nat} {m : Nat → Int → Int} (D : Nat)
theorem yPt_1 {s v : Int} (h : a ≠ e) : yPt m a e s v a 1 = m a 1 := by
  unfold yPt
  split
  · rw [zup_ne2 (by decide), zup_ne h]
  · split
    · rw [zup_ne2 (by decide), zup_ne h]
    · rw [zup_ne h]
theorem zk_108 (h : yBd L a e) (c : Int) (hc : 0 ≤ c ∧ c < 4096) (ht : m a 1 = 0 ∨ m a 1 = 1) : zmD zP (D + 2) 108 [zr a, zi c] (zW L m) = some (none, zW L (zup (yMkC m a e (c / 64) (c % 64)) a 1 (1 - m a 1))) := by
  have hae : a ≠ e := h.2.2.2.2.2
  have hf : 0 ≤ c / 64 ∧ c / 64 < 64 := by omega
  have htt : 0 ≤ c % 64 ∧ c % 64 < 64 := by omega
  rw [zen_108, zb_108_0, (z_and63 hc).1, (z_and63 hc).2, if_neg (by omega), if_pos hf.2, ybr h, zbs, yba h hf.1 hf.2, zbs, ybi h, zbs, (z_and7 htt).2]
  have e1 : (yMk1 m a (c % 64)) a 1 = m a 1 := by
    unfold yMk1
    split
    · rw [zup_ne2 (by decide)]
    · split
      · rw [zup_ne2 (by decide)]
      · rfl
  generalize c / 64 = f at *
  generalize c % 64 = t at *
  have last : ∀ v, zmE (zmD zP (D + 1)) zc_108 (104, [some (zr a), some (zi c), some (zi f), some (zi t), some (zi v), some (zi (t / 8))], [], zW L (zup (yMk1 m a t) e f 0)) = some (none, zW L (zup (yPt (zup (yMk1 m a t) e f 0) a e t v) a 1 (1 - m a 1))) := fun v => by
    rw [zb_108_104, ybc h, zk_51 _ h t v htt, zbs, zmG_n, zb_108_111, ybi h, zbs, yPt_1 hae, zup_ne hae, e1, w32_of (by omega) (by omega), ybp h, zbs]
  have mid : zmE (zmD zP (D + 1)) zc_108 (63, [some (zr a), some (zi c), some (zi f), some (zi t), some (zi (m e f)), some (zi (t / 8))], [], zW L (yMk1 m a t)) = some (none, zW L (zup (yMkC m a e f t) a 1 (1 - m a 1))) := by
    unfold yMkC yCrC
    rw [zb_108_63, ybr h, zbs, ybs h hf.1 hf.2, zbs, zb_108_89]
    by_cases g1 : m e f = 1
    · rw [if_pos g1]
      by_cases g2 : t / 8 = 7
      · rw [if_pos g2, if_pos ⟨g1, g2⟩, last]
      · rw [if_neg g2, if_neg (by omega), if_neg (by omega), if_neg (by omega), last]
    · rw [if_neg g1, if_neg (show ¬(m e f = 1 ∧ t / 8 = 7) from fun q => g1 q.1)]
      by_cases g3 : m e f = -1
      · rw [if_pos g3]
        by_cases g4 : t / 8 = 0
        · rw [if_pos g4, if_pos ⟨g3, g4⟩, last]
        · rw [if_neg g4, if_neg (show ¬(m e f = -1 ∧ t / 8 = 0) from fun q => g4 q.2), last]
      · rw [if_neg g3, if_neg (show ¬(m e f = -1 ∧ t / 8 = 0) from fun q => g3 q.1), last]
  rw [← mid]
  unfold yMk1
  by_cases g : t = m a 2
  · rw [if_pos g, if_pos g, ybp h, zbs]
  rw [if_neg g, if_neg g, ybi h, zbs]
  by_cases g2 : t = m a 3
  · rw [if_pos g2, if_pos g2, ybp h, zbs]
  rw [if_neg g2, if_neg g2]
end ZR
