/-! rows of 64 bits -/
def yBit (x : Int) (s : Nat) : Bool := (Int64.ofInt x).toBitVec.getLsbD s
theorem yBit_or {x y : Int} {s : Nat} : yBit (z_orl x y) s = (yBit x s || yBit y s) := by
  unfold yBit z_orl
  rw [Int64.ofInt_toInt, Int64.toBitVec_or, BitVec.getLsbD_or]
theorem yBit_and {x y : Int} {s : Nat} : yBit (z_andl x y) s = (yBit x s && yBit y s) := by
  unfold yBit z_andl
  rw [Int64.ofInt_toInt, Int64.toBitVec_and, BitVec.getLsbD_and]
theorem yBit_zero {s : Nat} : yBit 0 s = false := by
  unfold yBit
  exact BitVec.getLsbD_zero
theorem yBit_shl : ∀ k : Nat, k < 64 → ∀ s : Nat, s < 64 → yBit (z_shll 1 k) s = (s == k) := by decide +kernel
theorem yBit_neg {x : Int} {s : Nat} (hs : s < 64) : yBit (w64 (-x)) s = (yBit x s ^^ decide (∃ j, j < s ∧ yBit x j = true)) := by
  have e : Int64.ofInt (w64 (-x)) = -Int64.ofInt x := by
    refine Int64.toBitVec_inj.mp ?_
    rw [Int64.toBitVec_neg, Int64.toBitVec_ofInt, Int64.toBitVec_ofInt, ← BitVec.ofInt_neg]
    refine BitVec.eq_of_toInt_eq ?_
    rw [BitVec.toInt_ofInt, BitVec.toInt_ofInt]
    exact Int.bmod_bmod ..
  unfold yBit
  rw [e, Int64.toBitVec_neg, BitVec.getLsbD_neg, decide_eq_true hs, Bool.true_and]
