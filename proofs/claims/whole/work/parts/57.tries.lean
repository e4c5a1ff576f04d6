/-! the reference's twelve tries: what they say, which is less -/
def yWp (w : Nat) : Int := [2, 18, 1, 17, 3, 19, 11, 27, 7, 23, 15, 31].getD w 0
def yRkw (w : Nat) : Int := [1, 3, 0, 2, 4, 6, 7, 9, 5, 8, 10, 11].getD w 0
theorem yw12 {w : Nat} (h : w < 12) : w = 0 ∨ w = 1 ∨ w = 2 ∨ w = 3 ∨ w = 4 ∨ w = 5 ∨ w = 6 ∨ w = 7 ∨ w = 8 ∨ w = 9 ∨ w = 10 ∨ w = 11 := by omega
def yStr5 (tm fc fr tc tr : Int) : List Int := (if tm = -1 then [] else [zlet tm]) ++ ((if fc = -1 then [] else [97 + fc]) ++ ((if fr = -1 then [] else [49 + fr]) ++ ((if tc = -1 then [] else [97 + tc]) ++ (if tr = -1 then [] else [49 + tr]))))
def yTm (w k : Int) : Int := if w % 2 = 0 then -1 else k
def yTfc (w v : Int) : Int := if w / 2 = 3 ∨ w / 2 = 5 then v / 64 % 8 else -1
def yTfr (w v : Int) : Int := if 3 < w / 2 then v / 512 else -1
def yTtc (w v : Int) : Int := if w / 2 = 1 then -1 else v % 8
def yTtr (w v : Int) : Int := if w / 2 = 0 then -1 else v / 8 % 8
def yLex : List Int → List Int → Prop
  | a :: as, b :: bs => a < b ∨ a = b ∧ yLex as bs
  | _, _ => False
def yLess (a b : List Int) : Prop := a.length < b.length ∨ a.length = b.length ∧ yLex a b
theorem ySay_2 {k v : Int} : ySay 2 k v = [97 + v % 8] := by
  obtain ⟨b1, b2, b3, b4, b5⟩ := z_bit_2
  simp only [ySay, ySg, b1, b2, b3, b4, b5, Int.reduceEq, if_true, if_false, List.nil_append, List.append_nil, List.cons_append]
theorem ySay_18 {k v : Int} : ySay 18 k v = [zlet (k + 1), 97 + v % 8] := by
  obtain ⟨b1, b2, b3, b4, b5⟩ := z_bit_18
  simp only [ySay, ySg, b1, b2, b3, b4, b5, Int.reduceEq, if_true, if_false, List.nil_append, List.append_nil, List.cons_append]
theorem ySay_1 {k v : Int} : ySay 1 k v = [49 + v / 8 % 8] := by
  obtain ⟨b1, b2, b3, b4, b5⟩ := z_bit_1
  simp only [ySay, ySg, b1, b2, b3, b4, b5, Int.reduceEq, if_true, if_false, List.nil_append, List.append_nil, List.cons_append]
theorem ySay_17 {k v : Int} : ySay 17 k v = [zlet (k + 1), 49 + v / 8 % 8] := by
  obtain ⟨b1, b2, b3, b4, b5⟩ := z_bit_17
  simp only [ySay, ySg, b1, b2, b3, b4, b5, Int.reduceEq, if_true, if_false, List.nil_append, List.append_nil, List.cons_append]
theorem ySay_3 {k v : Int} : ySay 3 k v = [97 + v % 8, 49 + v / 8 % 8] := by
  obtain ⟨b1, b2, b3, b4, b5⟩ := z_bit_3
  simp only [ySay, ySg, b1, b2, b3, b4, b5, Int.reduceEq, if_true, if_false, List.nil_append, List.append_nil, List.cons_append]
theorem ySay_19 {k v : Int} : ySay 19 k v = [zlet (k + 1), 97 + v % 8, 49 + v / 8 % 8] := by
  obtain ⟨b1, b2, b3, b4, b5⟩ := z_bit_19
  simp only [ySay, ySg, b1, b2, b3, b4, b5, Int.reduceEq, if_true, if_false, List.nil_append, List.append_nil, List.cons_append]
theorem ySay_11 {k v : Int} : ySay 11 k v = [97 + v / 64 % 8, 97 + v % 8, 49 + v / 8 % 8] := by
  obtain ⟨b1, b2, b3, b4, b5⟩ := z_bit_11
  simp only [ySay, ySg, b1, b2, b3, b4, b5, Int.reduceEq, if_true, if_false, List.nil_append, List.append_nil, List.cons_append]
theorem ySay_27 {k v : Int} : ySay 27 k v = [zlet (k + 1), 97 + v / 64 % 8, 97 + v % 8, 49 + v / 8 % 8] := by
  obtain ⟨b1, b2, b3, b4, b5⟩ := z_bit_27
  simp only [ySay, ySg, b1, b2, b3, b4, b5, Int.reduceEq, if_true, if_false, List.nil_append, List.append_nil, List.cons_append]
theorem ySay_7 {k v : Int} : ySay 7 k v = [49 + v / 512, 97 + v % 8, 49 + v / 8 % 8] := by
  obtain ⟨b1, b2, b3, b4, b5⟩ := z_bit_7
  simp only [ySay, ySg, b1, b2, b3, b4, b5, Int.reduceEq, if_true, if_false, List.nil_append, List.append_nil, List.cons_append]
theorem ySay_23 {k v : Int} : ySay 23 k v = [zlet (k + 1), 49 + v / 512, 97 + v % 8, 49 + v / 8 % 8] := by
  obtain ⟨b1, b2, b3, b4, b5⟩ := z_bit_23
  simp only [ySay, ySg, b1, b2, b3, b4, b5, Int.reduceEq, if_true, if_false, List.nil_append, List.append_nil, List.cons_append]
theorem ySay_15 {k v : Int} : ySay 15 k v = [97 + v / 64 % 8, 49 + v / 512, 97 + v % 8, 49 + v / 8 % 8] := by
  obtain ⟨b1, b2, b3, b4, b5⟩ := z_bit_15
  simp only [ySay, ySg, b1, b2, b3, b4, b5, Int.reduceEq, if_true, if_false, List.nil_append, List.append_nil, List.cons_append]
theorem ySay_31 {k v : Int} : ySay 31 k v = [zlet (k + 1), 97 + v / 64 % 8, 49 + v / 512, 97 + v % 8, 49 + v / 8 % 8] := by
  obtain ⟨b1, b2, b3, b4, b5⟩ := z_bit_31
  simp only [ySay, ySg, b1, b2, b3, b4, b5, Int.reduceEq, if_true, if_false, List.nil_append, List.append_nil, List.cons_append]
theorem yTry_of {w : Nat} (hw : w < 12) {k v : Int} (hk : 0 ≤ k ∧ k ≤ 5) (hv : 0 ≤ v ∧ v < 4096) : yStr5 (yTm w (k + 1)) (yTfc w v) (yTfr w v) (yTtc w v) (yTtr w v) = ySay (yWp w) k v ∧ ∀ kind u, 0 ≤ kind ∧ kind ≤ 5 → 0 ≤ u ∧ u < 4096 → (yFitR (yTm w (k + 1)) (yTfc w v) (yTfr w v) (yTtc w v) (yTtr w v) kind u ↔ yKey (yWp w) kind u = yKey (yWp w) k v) := by
  unfold yFitR yEq
  rcases yw12 hw with e | e | e | e | e | e | e | e | e | e | e | e <;> subst e
  · obtain ⟨b1, b2, b3, b4, b5⟩ := z_bit_2
    rw [show yWp 0 = 2 from rfl, show yTm ((0 : Nat) : Int) (k + 1) = -1 from rfl, show yTfc ((0 : Nat) : Int) v = -1 from rfl, show yTfr ((0 : Nat) : Int) v = -1 from rfl, show yTtc ((0 : Nat) : Int) v = v % 8 from rfl, show yTtr ((0 : Nat) : Int) v = -1 from rfl]
    refine ⟨?_, fun kind u hkind hu => ?_⟩
    · rw [ySay_2]
      unfold yStr5
      simp (disch := omega) only [if_pos, if_neg, if_true, List.nil_append, List.append_nil, List.cons_append]
    · simp only [yKey, yDg, b1, b2, b3, b4, b5, Int.reduceEq, Int.reduceNeg, if_true, if_false, true_or, true_and, and_true]
      simp (disch := omega) only [yD8, true_and, and_true, true_or]
      omega
  · obtain ⟨b1, b2, b3, b4, b5⟩ := z_bit_18
    rw [show yWp 1 = 18 from rfl, show yTm ((1 : Nat) : Int) (k + 1) = k + 1 from rfl, show yTfc ((1 : Nat) : Int) v = -1 from rfl, show yTfr ((1 : Nat) : Int) v = -1 from rfl, show yTtc ((1 : Nat) : Int) v = v % 8 from rfl, show yTtr ((1 : Nat) : Int) v = -1 from rfl]
    refine ⟨?_, fun kind u hkind hu => ?_⟩
    · rw [ySay_18]
      unfold yStr5
      simp (disch := omega) only [if_pos, if_neg, if_true, List.nil_append, List.append_nil, List.cons_append]
    · simp only [yKey, yDg, b1, b2, b3, b4, b5, Int.reduceEq, Int.reduceNeg, if_true, if_false, true_or, true_and, and_true]
      simp (disch := omega) only [yD8, true_and, and_true, true_or]
      omega
  · obtain ⟨b1, b2, b3, b4, b5⟩ := z_bit_1
    rw [show yWp 2 = 1 from rfl, show yTm ((2 : Nat) : Int) (k + 1) = -1 from rfl, show yTfc ((2 : Nat) : Int) v = -1 from rfl, show yTfr ((2 : Nat) : Int) v = -1 from rfl, show yTtc ((2 : Nat) : Int) v = -1 from rfl, show yTtr ((2 : Nat) : Int) v = v / 8 % 8 from rfl]
    refine ⟨?_, fun kind u hkind hu => ?_⟩
    · rw [ySay_1]
      unfold yStr5
      simp (disch := omega) only [if_pos, if_neg, if_true, List.nil_append, List.append_nil, List.cons_append]
    · simp only [yKey, yDg, b1, b2, b3, b4, b5, Int.reduceEq, Int.reduceNeg, if_true, if_false, true_or, true_and, and_true]
      simp (disch := omega) only [yD8, true_and, and_true, true_or]
      omega
  · obtain ⟨b1, b2, b3, b4, b5⟩ := z_bit_17
    rw [show yWp 3 = 17 from rfl, show yTm ((3 : Nat) : Int) (k + 1) = k + 1 from rfl, show yTfc ((3 : Nat) : Int) v = -1 from rfl, show yTfr ((3 : Nat) : Int) v = -1 from rfl, show yTtc ((3 : Nat) : Int) v = -1 from rfl, show yTtr ((3 : Nat) : Int) v = v / 8 % 8 from rfl]
    refine ⟨?_, fun kind u hkind hu => ?_⟩
    · rw [ySay_17]
      unfold yStr5
      simp (disch := omega) only [if_pos, if_neg, if_true, List.nil_append, List.append_nil, List.cons_append]
    · simp only [yKey, yDg, b1, b2, b3, b4, b5, Int.reduceEq, Int.reduceNeg, if_true, if_false, true_or, true_and, and_true]
      simp (disch := omega) only [yD8, true_and, and_true, true_or]
      omega
  · obtain ⟨b1, b2, b3, b4, b5⟩ := z_bit_3
    rw [show yWp 4 = 3 from rfl, show yTm ((4 : Nat) : Int) (k + 1) = -1 from rfl, show yTfc ((4 : Nat) : Int) v = -1 from rfl, show yTfr ((4 : Nat) : Int) v = -1 from rfl, show yTtc ((4 : Nat) : Int) v = v % 8 from rfl, show yTtr ((4 : Nat) : Int) v = v / 8 % 8 from rfl]
    refine ⟨?_, fun kind u hkind hu => ?_⟩
    · rw [ySay_3]
      unfold yStr5
      simp (disch := omega) only [if_pos, if_neg, if_true, List.nil_append, List.append_nil, List.cons_append]
    · simp only [yKey, yDg, b1, b2, b3, b4, b5, Int.reduceEq, Int.reduceNeg, if_true, if_false, true_or, true_and, and_true]
      simp (disch := omega) only [yD8, true_and, and_true, true_or]
      omega
  · obtain ⟨b1, b2, b3, b4, b5⟩ := z_bit_19
    rw [show yWp 5 = 19 from rfl, show yTm ((5 : Nat) : Int) (k + 1) = k + 1 from rfl, show yTfc ((5 : Nat) : Int) v = -1 from rfl, show yTfr ((5 : Nat) : Int) v = -1 from rfl, show yTtc ((5 : Nat) : Int) v = v % 8 from rfl, show yTtr ((5 : Nat) : Int) v = v / 8 % 8 from rfl]
    refine ⟨?_, fun kind u hkind hu => ?_⟩
    · rw [ySay_19]
      unfold yStr5
      simp (disch := omega) only [if_pos, if_neg, if_true, List.nil_append, List.append_nil, List.cons_append]
    · simp only [yKey, yDg, b1, b2, b3, b4, b5, Int.reduceEq, Int.reduceNeg, if_true, if_false, true_or, true_and, and_true]
      simp (disch := omega) only [yD8, true_and, and_true, true_or]
      omega
  · obtain ⟨b1, b2, b3, b4, b5⟩ := z_bit_11
    rw [show yWp 6 = 11 from rfl, show yTm ((6 : Nat) : Int) (k + 1) = -1 from rfl, show yTfc ((6 : Nat) : Int) v = v / 64 % 8 from rfl, show yTfr ((6 : Nat) : Int) v = -1 from rfl, show yTtc ((6 : Nat) : Int) v = v % 8 from rfl, show yTtr ((6 : Nat) : Int) v = v / 8 % 8 from rfl]
    refine ⟨?_, fun kind u hkind hu => ?_⟩
    · rw [ySay_11]
      unfold yStr5
      simp (disch := omega) only [if_pos, if_neg, if_true, List.nil_append, List.append_nil, List.cons_append]
    · simp only [yKey, yDg, b1, b2, b3, b4, b5, Int.reduceEq, Int.reduceNeg, if_true, if_false, true_or, true_and, and_true]
      simp (disch := omega) only [yD8, true_and, and_true, true_or]
      omega
  · obtain ⟨b1, b2, b3, b4, b5⟩ := z_bit_27
    rw [show yWp 7 = 27 from rfl, show yTm ((7 : Nat) : Int) (k + 1) = k + 1 from rfl, show yTfc ((7 : Nat) : Int) v = v / 64 % 8 from rfl, show yTfr ((7 : Nat) : Int) v = -1 from rfl, show yTtc ((7 : Nat) : Int) v = v % 8 from rfl, show yTtr ((7 : Nat) : Int) v = v / 8 % 8 from rfl]
    refine ⟨?_, fun kind u hkind hu => ?_⟩
    · rw [ySay_27]
      unfold yStr5
      simp (disch := omega) only [if_pos, if_neg, if_true, List.nil_append, List.append_nil, List.cons_append]
    · simp only [yKey, yDg, b1, b2, b3, b4, b5, Int.reduceEq, Int.reduceNeg, if_true, if_false, true_or, true_and, and_true]
      simp (disch := omega) only [yD8, true_and, and_true, true_or]
      omega
  · obtain ⟨b1, b2, b3, b4, b5⟩ := z_bit_7
    rw [show yWp 8 = 7 from rfl, show yTm ((8 : Nat) : Int) (k + 1) = -1 from rfl, show yTfc ((8 : Nat) : Int) v = -1 from rfl, show yTfr ((8 : Nat) : Int) v = v / 512 from rfl, show yTtc ((8 : Nat) : Int) v = v % 8 from rfl, show yTtr ((8 : Nat) : Int) v = v / 8 % 8 from rfl]
    refine ⟨?_, fun kind u hkind hu => ?_⟩
    · rw [ySay_7]
      unfold yStr5
      simp (disch := omega) only [if_pos, if_neg, if_true, List.nil_append, List.append_nil, List.cons_append]
    · simp only [yKey, yDg, b1, b2, b3, b4, b5, Int.reduceEq, Int.reduceNeg, if_true, if_false, true_or, true_and, and_true]
      simp (disch := omega) only [yD8, true_and, and_true, true_or]
      omega
  · obtain ⟨b1, b2, b3, b4, b5⟩ := z_bit_23
    rw [show yWp 9 = 23 from rfl, show yTm ((9 : Nat) : Int) (k + 1) = k + 1 from rfl, show yTfc ((9 : Nat) : Int) v = -1 from rfl, show yTfr ((9 : Nat) : Int) v = v / 512 from rfl, show yTtc ((9 : Nat) : Int) v = v % 8 from rfl, show yTtr ((9 : Nat) : Int) v = v / 8 % 8 from rfl]
    refine ⟨?_, fun kind u hkind hu => ?_⟩
    · rw [ySay_23]
      unfold yStr5
      simp (disch := omega) only [if_pos, if_neg, if_true, List.nil_append, List.append_nil, List.cons_append]
    · simp only [yKey, yDg, b1, b2, b3, b4, b5, Int.reduceEq, Int.reduceNeg, if_true, if_false, true_or, true_and, and_true]
      simp (disch := omega) only [yD8, true_and, and_true, true_or]
      omega
  · obtain ⟨b1, b2, b3, b4, b5⟩ := z_bit_15
    rw [show yWp 10 = 15 from rfl, show yTm ((10 : Nat) : Int) (k + 1) = -1 from rfl, show yTfc ((10 : Nat) : Int) v = v / 64 % 8 from rfl, show yTfr ((10 : Nat) : Int) v = v / 512 from rfl, show yTtc ((10 : Nat) : Int) v = v % 8 from rfl, show yTtr ((10 : Nat) : Int) v = v / 8 % 8 from rfl]
    refine ⟨?_, fun kind u hkind hu => ?_⟩
    · rw [ySay_15]
      unfold yStr5
      simp (disch := omega) only [if_pos, if_neg, if_true, List.nil_append, List.append_nil, List.cons_append]
    · simp only [yKey, yDg, b1, b2, b3, b4, b5, Int.reduceEq, Int.reduceNeg, if_true, if_false, true_or, true_and, and_true]
      simp (disch := omega) only [yD8, true_and, and_true, true_or]
      omega
  · obtain ⟨b1, b2, b3, b4, b5⟩ := z_bit_31
    rw [show yWp 11 = 31 from rfl, show yTm ((11 : Nat) : Int) (k + 1) = k + 1 from rfl, show yTfc ((11 : Nat) : Int) v = v / 64 % 8 from rfl, show yTfr ((11 : Nat) : Int) v = v / 512 from rfl, show yTtc ((11 : Nat) : Int) v = v % 8 from rfl, show yTtr ((11 : Nat) : Int) v = v / 8 % 8 from rfl]
    refine ⟨?_, fun kind u hkind hu => ?_⟩
    · rw [ySay_31]
      unfold yStr5
      simp (disch := omega) only [if_pos, if_neg, if_true, List.nil_append, List.append_nil, List.cons_append]
    · simp only [yKey, yDg, b1, b2, b3, b4, b5, Int.reduceEq, Int.reduceNeg, if_true, if_false, true_or, true_and, and_true]
      simp (disch := omega) only [yD8, true_and, and_true, true_or]
      omega
theorem yLess_rank {w w' : Nat} (hw : w < 12) (hw' : w' < 12) {k v : Int} (hk : 0 ≤ k ∧ k ≤ 5) (hv : 0 ≤ v ∧ v < 4096) : yLess (ySay (yWp w) k v) (ySay (yWp w') k v) ↔ yRkw w < yRkw w' := by
  have hl := zlet_in (k + 1)
  have a1 : 0 ≤ v / 64 % 8 ∧ v / 64 % 8 < 8 := by omega
  have a2 : 0 ≤ v / 512 ∧ v / 512 < 8 := by omega
  have a3 : 0 ≤ v % 8 ∧ v % 8 < 8 := by omega
  have a4 : 0 ≤ v / 8 % 8 ∧ v / 8 % 8 < 8 := by omega
  have s0 : ySay (yWp 0) k v = _ := ySay_2
  have s1 : ySay (yWp 1) k v = _ := ySay_18
  have s2 : ySay (yWp 2) k v = _ := ySay_1
  have s3 : ySay (yWp 3) k v = _ := ySay_17
  have s4 : ySay (yWp 4) k v = _ := ySay_3
  have s5 : ySay (yWp 5) k v = _ := ySay_19
  have s6 : ySay (yWp 6) k v = _ := ySay_11
  have s7 : ySay (yWp 7) k v = _ := ySay_27
  have s8 : ySay (yWp 8) k v = _ := ySay_7
  have s9 : ySay (yWp 9) k v = _ := ySay_23
  have s10 : ySay (yWp 10) k v = _ := ySay_15
  have s11 : ySay (yWp 11) k v = _ := ySay_31
  generalize zlet (k + 1) = M at *
  generalize v / 64 % 8 = A at *
  generalize v / 512 = B at *
  generalize v % 8 = C at *
  generalize v / 8 % 8 = E at *
  unfold yLess
  rcases yw12 hw with e | e | e | e | e | e | e | e | e | e | e | e <;> subst e <;> rcases yw12 hw' with e | e | e | e | e | e | e | e | e | e | e | e <;> subst e <;> simp only [s0, s1, s2, s3, s4, s5, s6, s7, s8, s9, s10, s11, yRkw, List.getD_cons_zero, List.getD_cons_succ, List.length_cons, List.length_nil, yLex, Nat.reduceAdd, Nat.reduceLT, Nat.reduceEqDiff, Int.reduceLT, true_and, false_and, true_or, false_or, or_false, and_false, iff_true, iff_false] <;> omega
