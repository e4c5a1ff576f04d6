/-! small methods of the reference -/
section ZR
variable {L : Nat} {m : Nat → Int → Int} (d : Nat)
theorem zk_201 (v lo hi : Int) : zmD zP (d + 1) 201 [zl v, zl lo, zl hi] (zW L m) = some (some (zi (zB (lo ≤ v ∧ v ≤ hi))), zW L m) := by
  rw [zen_201, zb_201_0]
  by_cases h : v < lo
  · rw [if_pos (by rw [if_neg (by omega), if_neg (by omega)]; decide), zB, if_neg (by omega)]
  · by_cases h2 : hi < v
    · rw [if_neg (by split <;> (try split) <;> omega), if_pos (by rw [if_pos h2]; decide), zB, if_neg (by omega)]
    · rw [if_neg (by split <;> (try split) <;> omega), if_neg (by rw [if_neg h2]; split <;> decide), zB, if_pos (by omega)]
theorem zk_204 (s : Int) : zmD zP (d + 2) 204 [zi s] (zW L m) = some (some (zi (zB (0 ≤ s ∧ s ≤ 3))), zW L m) := by
  rw [zen_204, zb_204_0, zk_201, zbs, zmG_v, zb_204_9, if_pos zB_or]
theorem zk_205 (f : Int) (h : 0 ≤ f) (h2 : f ≤ 5) : zmD zP (d + 1) 205 [zr 98, zi f] (zW L m) = some (some (zi (-10 - f)), zW L (zup m 98 4 f)) := by
  rw [zen_205, zb_205_0, zpi_98, zbs, w32_of (by omega) (by omega)]
theorem zk_198 (t : Int) : zmD zP (d + 1) 198 [zi t] (zW L m) = some (some (zi (if t = 0 then 0 else if t = 1 then 80 else 90)), zW L m) := by
  rw [zen_198, zb_198_0]
  split <;> (try split) <;> rfl
end ZR
