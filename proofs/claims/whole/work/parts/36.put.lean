/-! put, takeOver of the class -/
def yPt (m : Nat → Int → Int) (a e : Nat) (s v : Int) : Nat → Int → Int := if v = 6 then zup (zup m e s v) a 2 s else if v = -6 then zup (zup m e s v) a 3 s else zup m e s v
/-- another board taken over -/
def yTk (m : Nat → Int → Int) (a e a0 e0 : Nat) : Nat → Int → Int := zup (zup (zup (zcp m e0 0 e 0 64) a 1 (m a0 1)) a 2 (m a0 2)) a 3 (m a0 3)
theorem zcp_ne {m : Nat → Int → Int} {a0 a x : Nat} {sp dp n : Int} (h : x ≠ a) : zcp m a0 sp a dp n x = m x := by
  funext j
  unfold zcp
  rw [if_neg (fun q => h q.1)]
section ZR
variable {L a e a0 e0 : Nat} {m : Nat → Int → Int} (D : Nat)
theorem zk_51 (h : yBd L a e) (s v : Int) (hs : 0 ≤ s ∧ s < 64) : zmD zP (D + 1) 51 [zr a, zi s, zi v] (zW L m) = some (none, zW L (yPt m a e s v)) := by
  rw [zen_51, zb_51_0, if_neg (by omega), if_pos hs.2, ybr h, zbs, ybs h hs.1 hs.2, zbs]
  unfold yPt
  by_cases g : v = 6
  · rw [if_pos g, if_pos g, ybp h, zbs]
  rw [if_neg g, if_neg g]
  by_cases g2 : v = -6
  · rw [if_pos g2, if_pos g2, ybp h, zbs]
  rw [if_neg g2, if_neg g2]
theorem zk_136 (h : yBd L a e) (h0 : yBd L a0 e0) (hne : a0 ≠ a) (hne2 : a0 ≠ e) : zmD zP (D + 1) 136 [zr a, zr a0] (zW L m) = some (none, zW L (yTk m a e a0 e0)) := by
  have s0 := h0.2.2.1
  have s1 := h.2.2.1
  rw [zen_136, zb_136_0, ybr h0, zbs, ybr h, zbs, zw_copy (congrArg Prod.fst s0) (congrArg Prod.fst s1) h0.2.2.2.2.1 h.2.2.2.2.1 ⟨by decide, by decide, by decide⟩ (by rw [s0]; decide) (by rw [s1]; decide), zbs, ybi h0, zbs, ybp h, zbs, ybi h0, zbs, ybp h, zbs, ybi h0, zbs, ybp h, zbs, zup_ne hne, zup_ne hne, zup_ne hne, zcp_ne hne2]
  rfl
end ZR
