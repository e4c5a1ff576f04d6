/-! the lowest bit of a long -/
def yLow (x : Int) (k : Nat) : Prop := k < 64 ∧ yBit x k = true ∧ ∀ j, j < k → yBit x j = false
theorem yExt {x y : Int64} (h : ∀ s, s < 64 → yBit x.toInt s = yBit y.toInt s) : x = y := by
  refine Int64.toBitVec_inj.mp (BitVec.eq_of_getLsbD_eq fun s hs => ?_)
  have e := h s hs
  unfold yBit at e
  rw [Int64.ofInt_toInt, Int64.ofInt_toInt] at e
  exact e
theorem yExt2 {x y : Int64} {a b : Int} (ha : a = x.toInt) (hb : b = y.toInt) (h : ∀ s, s < 64 → yBit a s = yBit b s) : a = b := by
  subst ha hb
  rw [yExt h]
theorem yLow_and {x : Int} {k : Nat} (h : yLow x k) : z_andl x (w64 (-x)) = z_shll 1 k := by
  obtain ⟨hk, h1, h2⟩ := h
  refine yExt2 (x := Int64.ofInt x &&& Int64.ofInt (w64 (-x))) (y := Int64.ofInt 1 <<< ((Int32.ofInt (k : Int)).toInt64 &&& 63)) rfl rfl fun s hs => ?_
  rw [yBit_and, yBit_neg hs, yBit_shl k hk s hs]
  by_cases g : s = k
  · subst g
    have : ¬ ∃ j, j < s ∧ yBit x j = true := by
      rintro ⟨j, q1, q2⟩
      rw [h2 j q1] at q2
      exact absurd q2 (by decide)
    rw [h1, decide_eq_false this, beq_self_eq_true]
    rfl
  · have gb : (s == k) = false := beq_false_of_ne g
    rw [gb]
    by_cases g2 : s < k
    · rw [h2 s g2, Bool.false_and]
    · have : ∃ j, j < s ∧ yBit x j = true := ⟨k, by omega, h1⟩
      rw [decide_eq_true this]
      cases yBit x s <;> rfl
theorem yLow_clear {x : Int} {k : Nat} (h : yLow x k) (s : Nat) (hs : s < 64) : yBit (z_andl x (w64 (x - 1))) s = (yBit x s && !(s == k)) := by
  obtain ⟨hk, h1, h2⟩ := h
  have e : Int64.ofInt (w64 (x - 1)) = ~~~Int64.ofInt (w64 (-x)) := by
    have b1 : ∀ z : Int, BitVec.ofInt 64 (w64 z) = BitVec.ofInt 64 z := fun z => by
      refine BitVec.eq_of_toInt_eq ?_
      rw [BitVec.toInt_ofInt, BitVec.toInt_ofInt]
      exact Int.bmod_bmod ..
    have b2 : ∀ y : BitVec 64, ~~~(-y) = y - 1 := fun y => by
      refine BitVec.eq_of_toNat_eq ?_
      rw [BitVec.toNat_not, BitVec.toNat_neg, BitVec.toNat_sub]
      have := y.isLt
      rw [show BitVec.toNat (1 : BitVec 64) = 1 from rfl]
      omega
    have b3 : BitVec.ofInt 64 (x - 1) = BitVec.ofInt 64 x - 1 := by
      refine BitVec.eq_of_toInt_eq ?_
      rw [BitVec.toInt_ofInt, BitVec.toInt_sub, BitVec.toInt_ofInt, show BitVec.toInt (1 : BitVec 64) = 1 from rfl]
      simp
    refine Int64.toBitVec_inj.mp ?_
    rw [Int64.toBitVec_not, Int64.toBitVec_ofInt, Int64.toBitVec_ofInt, b1, b1, BitVec.ofInt_neg, b2, b3]
  have e2 : yBit (w64 (x - 1)) s = !(yBit (w64 (-x)) s) := by
    unfold yBit
    rw [e, Int64.toBitVec_not, BitVec.getLsbD_not, decide_eq_true hs, Bool.true_and]
  rw [yBit_and, e2, yBit_neg hs]
  by_cases g : s = k
  · subst g
    have : ¬ ∃ j, j < s ∧ yBit x j = true := by
      rintro ⟨j, q1, q2⟩
      rw [h2 j q1] at q2
      exact absurd q2 (by decide)
    rw [h1, decide_eq_false this, beq_self_eq_true]
    rfl
  · have gb : (s == k) = false := beq_false_of_ne g
    rw [gb]
    by_cases g2 : s < k
    · rw [h2 s g2, Bool.false_and, Bool.false_and]
    · have : ∃ j, j < s ∧ yBit x j = true := ⟨k, by omega, h1⟩
      rw [decide_eq_true this]
      cases yBit x s <;> rfl
def yC1 (x : Int) : Int := w64 (x - (z_andl (z_ushrl x 1) 6148914691236517205))
def yC2 (x : Int) : Int := w64 ((z_andl x 3689348814741910323) + (z_andl (z_ushrl x 2) 3689348814741910323))
def yC3 (x : Int) : Int := z_andl (w64 (x + (z_ushrl x 4))) 1085102592571150095
def yC4 (x k : Int) : Int := w64 (x + (z_ushrl x k))
def yCnt (x : Int) : Int := z_and (z_l2i (yC4 (yC4 (yC4 (yC3 (yC2 (yC1 x))) 8) 16) 32)) 127
theorem zk_84 (D : Nat) (x : Int) (w : zmW) : zmD zP (D + 1) 84 [zl x] w = some (some (zi (yCnt x)), w) := by
  rw [zen_84, zb_84_0, zb_84_10, zb_84_24, zb_84_34, zb_84_41, zb_84_48, zb_84_55]
  rfl
theorem yCnt_low : ∀ k : Nat, k < 64 → yCnt (w64 (z_shll 1 k - 1)) = k := by decide +kernel
