/-! sayings as rows of bytes -/
noncomputable def yRun : Int → List Int → Int → Int
  | s, [], k => if yT (yEnds s) = 0 then k else -1
  | s, b :: w, k => if yNext s b = 7 then k else yRun (yNext s b) w (k + 1)
theorem yRun_nil {s k : Int} : yRun s [] k = if yT (yEnds s) = 0 then k else -1 := rfl
theorem yRun_cons {s b k : Int} {w : List Int} : yRun s (b :: w) k = if yNext s b = 7 then k else yRun (yNext s b) w (k + 1) := rfl
theorem yCR {b : Int} (h : yCl b) : ¬ yRw b := fun q => by
  unfold yCl yRw at *
  omega
theorem yNext_0 {b : Int} (h : ¬ 0 < yMan b) : yNext 0 b = yNext 1 b := by
  unfold yNext
  rw [if_pos rfl, if_neg h, if_neg (c := (1 : Int) = 0) (by decide), if_pos rfl]
theorem yNext_0m {b : Int} (h : 0 < yMan b) : yNext 0 b = 1 := by
  unfold yNext
  rw [if_pos rfl, if_pos h]
theorem yNext_1 {b : Int} : yNext 1 b = if yT (yCl b) = 0 then (if yT (yRw b) = 0 then 7 else 3) else 2 := rfl
theorem yNext_2 {b : Int} : yNext 2 b = if yT (yCl b) = 0 then (if yT (yRw b) = 0 then 7 else 5) else 4 := rfl
theorem yNext_3 {b : Int} : yNext 3 b = if yT (yCl b) = 0 then 7 else 4 := rfl
theorem yNext_4 {b : Int} : yNext 4 b = if yT (yRw b) = 0 then 7 else 6 := rfl
theorem yNext_5 {b : Int} : yNext 5 b = if yT (yCl b) = 0 then 7 else 4 := rfl
theorem yNext_6 {b : Int} : yNext 6 b = 7 := rfl
theorem yNext_7 {b : Int} : yNext 7 b = 7 := rfl
theorem yEnds_no {s : Int} (h : s = 0 ∨ s = 1 ∨ s = 4 ∨ s = 7) : yT (yEnds s) = 0 := yT_neg (by unfold yEnds; omega)
theorem yEnds_yes {s : Int} (h : s = 2 ∨ s = 3 ∨ s = 5 ∨ s = 6) : yT (yEnds s) = 1 := yT_pos h
theorem yRun_in {s : Int} : ∀ (w : List Int) (k : Int), 0 ≤ k → yRun s w k = -1 ∨ k ≤ yRun s w k ∧ yRun s w k ≤ k + w.length
  | [], k, hk => by
    rw [yRun_nil]
    split
    · exact .inr ⟨Int.le_refl k, by show k ≤ k + ((0 : Nat) : Int); omega⟩
    · exact .inl rfl
  | b :: w, k, hk => by
    rw [yRun_cons, List.length_cons]
    split
    · exact .inr ⟨Int.le_refl k, by omega⟩
    · rcases yRun_in w (k + 1) (by omega) with h | h
      · exact .inl h
      · exact .inr (by omega)
theorem yRun_6 {w : List Int} {k : Int} (hk : 0 ≤ k) (h : yRun 6 w k = -1) : w = [] := by
  cases w with
  | nil => rfl
  | cons b w =>
    rw [yRun_cons, yNext_6, if_pos rfl] at h
    omega
theorem yRun_4 {w : List Int} {k : Int} (hk : 0 ≤ k) (h : yRun 4 w k = -1) : ∃ b, w = [b] ∧ yRw b := by
  cases w with
  | nil =>
    rw [yRun_nil, yEnds_no (by omega), if_pos rfl] at h
    omega
  | cons b w =>
    rw [yRun_cons, yNext_4] at h
    by_cases g : yRw b
    · rw [yT_pos g, if_neg (by decide), if_neg (by decide)] at h
      exact ⟨b, by rw [yRun_6 (by omega) h], g⟩
    · rw [yT_neg g, if_pos rfl, if_pos rfl] at h
      omega
theorem yRun_35 {s : Int} (hs : s = 3 ∨ s = 5) {w : List Int} {k : Int} (hk : 0 ≤ k) (h : yRun s w k = -1) : w = [] ∨ ∃ a b, w = [a, b] ∧ yCl a ∧ yRw b := by
  cases w with
  | nil => exact .inl rfl
  | cons a w =>
    have e : yNext s a = if yT (yCl a) = 0 then 7 else 4 := by
      rcases hs with e | e <;> subst e <;> rfl
    rw [yRun_cons, e] at h
    by_cases g : yCl a
    · rw [yT_pos g, if_neg (show ¬ (1 : Int) = 0 by decide), if_neg (by decide)] at h
      obtain ⟨b, rfl, h2⟩ := yRun_4 (by omega) h
      exact .inr ⟨a, b, rfl, g, h2⟩
    · rw [yT_neg g, if_pos rfl, if_pos rfl] at h
      omega
theorem yShape {w : List Int} {k : Int} (hk : 0 ≤ k) (h : yRun 1 w k = -1) : (∃ x, w = [x] ∧ (yCl x ∨ yRw x)) ∨ (∃ x y, w = [x, y] ∧ yCl x ∧ yRw y) ∨ (∃ x y z, w = [x, y, z] ∧ (yCl x ∨ yRw x) ∧ yCl y ∧ yRw z) ∨ (∃ x y z t, w = [x, y, z, t] ∧ yCl x ∧ yRw y ∧ yCl z ∧ yRw t) := by
  cases w with
  | nil =>
    rw [yRun_nil, yEnds_no (by omega), if_pos rfl] at h
    omega
  | cons x w =>
    rw [yRun_cons, yNext_1] at h
    by_cases g : yCl x
    · rw [yT_pos g, if_neg (show ¬ (1 : Int) = 0 by decide), if_neg (by decide)] at h
      cases w with
      | nil => exact .inl ⟨x, rfl, .inl g⟩
      | cons y w =>
        rw [yRun_cons, yNext_2] at h
        by_cases g2 : yCl y
        · rw [yT_pos g2, if_neg (show ¬ (1 : Int) = 0 by decide), if_neg (by decide)] at h
          obtain ⟨z, rfl, g3⟩ := yRun_4 (by omega) h
          exact .inr (.inr (.inl ⟨x, y, z, rfl, .inl g, g2, g3⟩))
        · rw [yT_neg g2, if_pos rfl] at h
          by_cases g3 : yRw y
          · rw [yT_pos g3, if_neg (show ¬ (1 : Int) = 0 by decide), if_neg (by decide)] at h
            rcases yRun_35 (.inr rfl) (by omega) h with rfl | ⟨a, b, rfl, g4, g5⟩
            · exact .inr (.inl ⟨x, y, rfl, g, g3⟩)
            · exact .inr (.inr (.inr ⟨x, y, a, b, rfl, g, g3, g4, g5⟩))
          · rw [yT_neg g3, if_pos rfl, if_pos rfl] at h
            omega
    · rw [yT_neg g, if_pos rfl] at h
      by_cases g3 : yRw x
      · rw [yT_pos g3, if_neg (show ¬ (1 : Int) = 0 by decide), if_neg (by decide)] at h
        rcases yRun_35 (.inl rfl) (by omega) h with rfl | ⟨a, b, rfl, g4, g5⟩
        · exact .inl ⟨x, rfl, .inr g3⟩
        · exact .inr (.inr (.inl ⟨x, a, b, rfl, .inr g3, g4, g5⟩))
      · rw [yT_neg g3, if_pos rfl, if_pos rfl] at h
        omega
/-- what the class makes of a saying: stage, parts, key -/
noncomputable def yPart (b left : Int) : Int := if 2 < left then (if yT (yCl b) = 0 then 4 else 8) else if yT (yCl b) = 0 then 1 else 2
noncomputable def yDig (b : Int) : Int := if yT (yCl b) = 0 then b - 49 else b - 97
noncomputable def yPar : List Int → Int → Int → Int → Int × Int × Int
  | [], s, p, k => (s, p, k)
  | b :: w, s, p, k => if yNext s b = 1 then yPar w 1 16 (yMan b - 1) else if yNext s b = 7 then yPar w 7 p k else yPar w (yNext s b) (z_or p (yPart b (w.length + 1))) (k * 8 + yDig b)
theorem yPar_nil {s p k : Int} : yPar [] s p k = (s, p, k) := rfl
theorem yPar_cons {b : Int} {w : List Int} {s p k : Int} : yPar (b :: w) s p k = if yNext s b = 1 then yPar w 1 16 (yMan b - 1) else if yNext s b = 7 then yPar w 7 p k else yPar w (yNext s b) (z_or p (yPart b (w.length + 1))) (k * 8 + yDig b) := rfl
theorem yPar_7 {p k : Int} : ∀ w : List Int, yPar w 7 p k = (7, p, k)
  | [] => rfl
  | b :: w => by
    rw [yPar_cons, yNext_7, if_neg (by decide), if_pos rfl, yPar_7 w]
theorem yNext_ne1 {s b : Int} (h : s ≠ 0) : yNext s b ≠ 1 := by
  unfold yNext
  rw [if_neg h]
  repeat' split
  all_goals decide
/-- sound, by the run -/
theorem yPar_run : ∀ (w : List Int) (s p k n : Int), 0 ≤ n → (yRun s w n = -1 ↔ yEnds (yPar w s p k).1)
  | [], s, p, k, n, hn => by
    rw [yRun_nil, yPar_nil]
    by_cases g : yEnds s
    · rw [yT_pos g, if_neg (by decide)]
      exact ⟨fun _ => g, fun _ => rfl⟩
    · rw [yT_neg g, if_pos rfl]
      exact ⟨fun q => by omega, fun q => absurd q g⟩
  | b :: w, s, p, k, n, hn => by
    rw [yRun_cons, yPar_cons]
    by_cases g : yNext s b = 7
    · rw [if_pos g, if_neg (by omega), if_pos g, yPar_7]
      exact ⟨fun q => by omega, fun q => by unfold yEnds at q; omega⟩
    · rw [if_neg g]
      by_cases g1 : yNext s b = 1
      · rw [if_pos g1, g1]
        exact yPar_run w 1 _ _ (n + 1) (by omega)
      · rw [if_neg g1, if_neg g]
        exact yPar_run w _ _ _ (n + 1) (by omega)
noncomputable def yFits (w : List Int) (kind v : Int) : Prop := yEnds (yPar w 0 0 0).1 ∧ yKey (yPar w 0 0 0).2.1 kind v = (yPar w 0 0 0).2.2
/-- what the reference reads of a saying's signs behind the man: columns and rows -/
def yTell (w : List Int) : Int × Int × Int × Int := match w with
  | [x] => (-1, -1, zcolumn x, zrow x)
  | [x, y] => (-1, -1, zcolumn x, zrow y)
  | [x, y, z] => (zcolumn x, zrow x, zcolumn y, zrow z)
  | [x, y, z, t] => (zcolumn x, zrow y, zcolumn z, zrow t)
  | _ => (-1, -1, -1, -1)
def yEq (a x : Int) : Prop := a = -1 ∨ x = a
/-- the reference's word on whether a saying fits: man, columns and rows -/
def yFitR (man fc fr tc tr kind v : Int) : Prop := (yEq man (kind + 1)) ∧ (yEq fc (v / 64 % 8) ∧ yEq fr (v / 512)) ∧ yEq tc (v % 8) ∧ yEq tr (v / 8 % 8)
theorem yCol_y {x : Int} (h : yCl x) : zcolumn x = x - 97 ∧ zrow x = -1 ∧ yDig x = x - 97 ∧ (0 ≤ x - 97 ∧ x - 97 < 8) ∧ yT (yCl x) = 1 ∧ yT (yRw x) = 0 := by
  have h2 := yCR h
  unfold zcolumn zrow yDig
  rw [yT_pos h, yT_neg h2]
  unfold yCl at h
  unfold yRw at h2
  rw [if_pos h, if_neg h2, if_neg (by decide)]
  omega
theorem yRow_y {x : Int} (h : yRw x) : zcolumn x = -1 ∧ zrow x = x - 49 ∧ yDig x = x - 49 ∧ (0 ≤ x - 49 ∧ x - 49 < 8) ∧ yT (yCl x) = 0 ∧ yT (yRw x) = 1 := by
  have h2 : ¬ yCl x := fun q => yCR q h
  unfold zcolumn zrow yDig
  rw [yT_pos h, yT_neg h2]
  unfold yRw at h
  unfold yCl at h2
  rw [if_pos h, if_neg h2, if_pos rfl]
  omega
theorem z_ors : z_or 0 1 = 1 ∧ z_or 0 2 = 2 ∧ z_or 0 4 = 4 ∧ z_or 0 8 = 8 ∧ z_or 16 1 = 17 ∧ z_or 16 2 = 18 ∧ z_or 16 4 = 20 ∧ z_or 16 8 = 24 ∧ z_or 2 1 = 3 ∧ z_or 18 1 = 19 ∧ z_or 4 2 = 6 ∧ z_or 8 2 = 10 ∧ z_or 20 2 = 22 ∧ z_or 24 2 = 26 ∧ z_or 6 1 = 7 ∧ z_or 10 1 = 11 ∧ z_or 22 1 = 23 ∧ z_or 26 1 = 27 ∧ z_or 8 4 = 12 ∧ z_or 24 4 = 28 ∧ z_or 12 2 = 14 ∧ z_or 28 2 = 30 ∧ z_or 14 1 = 15 ∧ z_or 30 1 = 31 := by decide
theorem yD8 {a b x y : Int} (h1 : 0 ≤ x) (h2 : x < 8) (h3 : 0 ≤ y) (h4 : y < 8) : a * 8 + x = b * 8 + y ↔ a = b ∧ x = y := by omega
/-- the two readings of what stands behind the man are one -/
theorem yRead_same {w : List Int} {p0 k0 kind v : Int} (hp : p0 = 0 ∧ k0 = 0 ∨ p0 = 16 ∧ 0 ≤ k0 ∧ k0 ≤ 5) (hk : 0 ≤ kind ∧ kind ≤ 5) (hv : 0 ≤ v ∧ v < 4096) (h : yRun 1 w 0 = -1) : yKey (yPar w 1 p0 k0).2.1 kind v = (yPar w 1 p0 k0).2.2 ↔ yFitR (if p0 = 0 then -1 else k0 + 1) (yTell w).1 (yTell w).2.1 (yTell w).2.2.1 (yTell w).2.2.2 kind v := by
  obtain ⟨o1, o2, o3, o4, o5, o6, o7, o8, o9, o10, o11, o12, o13, o14, o15, o16, o17, o18, o19, o20, o21, o22, o23, o24⟩ := z_ors
  have b1 := z_bit_1
  have b2 := z_bit_2
  have b3 := z_bit_3
  have b7 := z_bit_7
  have b11 := z_bit_11
  have b15 := z_bit_15
  have b17 := z_bit_17
  have b18 := z_bit_18
  have b19 := z_bit_19
  have b23 := z_bit_23
  have b27 := z_bit_27
  have b31 := z_bit_31
  unfold yFitR yEq
  rcases yShape (Int.le_refl 0) h with ⟨x, rfl, hx⟩ | ⟨x, y, rfl, hx, hy⟩ | ⟨x, y, z, rfl, hx, hy, hz⟩ | ⟨x, y, z, t, rfl, hx, hy, hz, ht⟩
  · rcases hx with hx | hx
    · obtain ⟨x1, x2, x3, x4, x5, x6⟩ := yCol_y hx
      rcases hp with ⟨rfl, rfl⟩ | ⟨rfl, hk0⟩ <;> simp only [true_or, true_and, and_true, yPar_cons, yPar_nil, yNext_1, yPart, yTell, x1, x2, x3, x5, x6, List.length_nil, Int.natCast_zero, Int.reduceAdd, Int.reduceLT, Int.reduceEq, Int.reduceNeg, if_true, if_false, o1, o2, o5, o6, yKey, yDg, b2, b18] <;> simp (disch := omega) only [yD8, true_and, and_true, true_or] <;> omega
    · obtain ⟨x1, x2, x3, x4, x5, x6⟩ := yRow_y hx
      rcases hp with ⟨rfl, rfl⟩ | ⟨rfl, hk0⟩ <;> simp only [true_or, true_and, and_true, yPar_cons, yPar_nil, yNext_1, yPart, yTell, x1, x2, x3, x5, x6, List.length_nil, Int.natCast_zero, Int.reduceAdd, Int.reduceLT, Int.reduceEq, Int.reduceNeg, if_true, if_false, o1, o2, o5, o6, yKey, yDg, b1, b17] <;> simp (disch := omega) only [yD8, true_and, and_true, true_or] <;> omega
  · obtain ⟨x1, x2, x3, x4, x5, x6⟩ := yCol_y hx
    obtain ⟨y1, y2, y3, y4, y5, y6⟩ := yRow_y hy
    rcases hp with ⟨rfl, rfl⟩ | ⟨rfl, hk0⟩ <;> simp only [true_or, true_and, and_true, yPar_cons, yPar_nil, yNext_1, yNext_2, yPart, yTell, x1, x2, x3, x5, x6, y1, y2, y3, y5, y6, List.length_nil, List.length_cons, Nat.zero_add, Int.natCast_zero, Int.natCast_one, Int.reduceAdd, Int.reduceLT, Int.reduceEq, Int.reduceNeg, if_true, if_false, o2, o6, o9, o10, yKey, yDg, b3, b19] <;> simp (disch := omega) only [yD8, true_and, and_true, true_or] <;> omega
  · obtain ⟨y1, y2, y3, y4, y5, y6⟩ := yCol_y hy
    obtain ⟨z1, z2, z3, z4, z5, z6⟩ := yRow_y hz
    rcases hx with hx | hx
    · obtain ⟨x1, x2, x3, x4, x5, x6⟩ := yCol_y hx
      rcases hp with ⟨rfl, rfl⟩ | ⟨rfl, hk0⟩ <;> simp only [true_or, true_and, and_true, yPar_cons, yPar_nil, yNext_1, yNext_2, yNext_4, yPart, yTell, x1, x2, x3, x5, x6, y1, y2, y3, y5, y6, z1, z2, z3, z5, z6, List.length_nil, List.length_cons, Nat.zero_add, Nat.reduceAdd, Int.natCast_zero, Int.natCast_one, Int.cast_ofNat_Int, Int.reduceAdd, Int.reduceLT, Int.reduceEq, Int.reduceNeg, if_true, if_false, o4, o8, o12, o14, o16, o18, yKey, yDg, b11, b27] <;> simp (disch := omega) only [yD8, true_and, and_true, true_or] <;> omega
    · obtain ⟨x1, x2, x3, x4, x5, x6⟩ := yRow_y hx
      rcases hp with ⟨rfl, rfl⟩ | ⟨rfl, hk0⟩ <;> simp only [true_or, true_and, and_true, yPar_cons, yPar_nil, yNext_1, yNext_3, yNext_4, yPart, yTell, x1, x2, x3, x5, x6, y1, y2, y3, y5, y6, z1, z2, z3, z5, z6, List.length_nil, List.length_cons, Nat.zero_add, Nat.reduceAdd, Int.natCast_zero, Int.natCast_one, Int.cast_ofNat_Int, Int.reduceAdd, Int.reduceLT, Int.reduceEq, Int.reduceNeg, if_true, if_false, o3, o7, o11, o13, o15, o17, yKey, yDg, b7, b23] <;> simp (disch := omega) only [yD8, true_and, and_true, true_or] <;> omega
  · obtain ⟨x1, x2, x3, x4, x5, x6⟩ := yCol_y hx
    obtain ⟨y1, y2, y3, y4, y5, y6⟩ := yRow_y hy
    obtain ⟨z1, z2, z3, z4, z5, z6⟩ := yCol_y hz
    obtain ⟨t1, t2, t3, t4, t5, t6⟩ := yRow_y ht
    rcases hp with ⟨rfl, rfl⟩ | ⟨rfl, hk0⟩ <;> simp only [true_or, true_and, and_true, yPar_cons, yPar_nil, yNext_1, yNext_2, yNext_5, yNext_4, yPart, yTell, x1, x2, x3, x5, x6, y1, y2, y3, y5, y6, z1, z2, z3, z5, z6, t1, t2, t3, t5, t6, List.length_nil, List.length_cons, Nat.zero_add, Nat.reduceAdd, Int.natCast_zero, Int.natCast_one, Int.cast_ofNat_Int, Int.reduceAdd, Int.reduceLT, Int.reduceEq, Int.reduceNeg, if_true, if_false, o4, o8, o19, o20, o21, o22, o23, o24, yKey, yDg, b15, b31] <;> simp (disch := omega) only [yD8, true_and, and_true, true_or] <;> omega
