/-! the least table: the k least are joined, again and again -/
def yIns (x : Int) : List Int → List Int
  | [] => [x]
  | a :: S => if x ≤ a then x :: a :: S else a :: yIns x S
def ySrt : List Int → List Int
  | [] => []
  | a :: S => yIns a (ySrt S)
def yTot (S : List Int) : Int := ySumL (fun x => x) S
def yAsc (S : List Int) : Prop := S.Pairwise (· ≤ ·)
def yHuf (k : Nat) : Nat → List Int → Int
  | 0, _ => 0
  | f + 1, S => if S.length ≤ 1 then 0 else yTot (S.take k) + yHuf k f (yIns (yTot (S.take k)) (S.drop k))
theorem yIns_perm {x : Int} : ∀ S : List Int, (yIns x S).Perm (x :: S)
  | [] => List.Perm.refl _
  | a :: S => by
    unfold yIns
    split
    · exact List.Perm.refl _
    · exact ((yIns_perm S).cons a).trans (List.Perm.swap x a S)
theorem ySrt_perm : ∀ S : List Int, (ySrt S).Perm S
  | [] => List.Perm.refl _
  | a :: S => (yIns_perm (ySrt S)).trans ((ySrt_perm S).cons a)
theorem yIns_asc {x : Int} : ∀ S : List Int, yAsc S → yAsc (yIns x S)
  | [], _ => List.pairwise_singleton _ _
  | a :: S, h => by
    obtain ⟨h1, h2⟩ := List.pairwise_cons.mp h
    unfold yIns
    split
    · rename_i g
      exact List.pairwise_cons.mpr ⟨fun y hy => by
        rcases List.mem_cons.mp hy with rfl | hy
        · exact g
        · exact Int.le_trans g (h1 y hy), h⟩
    · rename_i g
      refine List.pairwise_cons.mpr ⟨fun y hy => ?_, yIns_asc S h2⟩
      rcases List.mem_cons.mp ((yIns_perm S).mem_iff.mp hy) with rfl | hy
      · omega
      · exact h1 y hy
theorem ySrt_asc : ∀ S : List Int, yAsc (ySrt S)
  | [] => List.Pairwise.nil
  | a :: S => yIns_asc _ (ySrt_asc S)
theorem yTot_nil : yTot [] = 0 := rfl
theorem yTot_cons {x : Int} {S : List Int} : yTot (x :: S) = x + yTot S := rfl
theorem yTot_app : ∀ A B : List Int, yTot (A ++ B) = yTot A + yTot B
  | [], B => by rw [List.nil_append, yTot_nil]; omega
  | a :: A, B => by rw [List.cons_append, yTot_cons, yTot_cons, yTot_app A B]; omega
theorem yTot_perm {A B : List Int} (h : A.Perm B) : yTot A = yTot B := by
  induction h with
  | nil => rfl
  | cons x _ ih => rw [yTot_cons, yTot_cons, ih]
  | swap x y l => rw [yTot_cons, yTot_cons, yTot_cons, yTot_cons]; omega
  | trans _ _ h1 h2 => exact h1.trans h2
theorem yTot_nn : ∀ S : List Int, (∀ x ∈ S, 0 ≤ x) → 0 ≤ yTot S
  | [], _ => Int.le_refl _
  | a :: S, h => by
    have := yTot_nn S fun x hx => h x (List.mem_cons_of_mem _ hx)
    have := h a List.mem_cons_self
    rw [yTot_cons]
    omega
/-- one less of a list of numbers, and the place of it refilled by the last -/
theorem yTake_perm {y : Int} : ∀ (T : List Int) (j : Nat), j < T.length → (T.getD j 0 :: T.set j y).Perm (y :: T)
  | [], j, h => absurd h (Nat.not_lt_zero j)
  | a :: T, 0, _ => List.Perm.swap y a T
  | a :: T, j + 1, h => by
    have := yTake_perm (y := y) T j (by rw [List.length_cons] at h; omega)
    show (T.getD j 0 :: a :: T.set j y).Perm (y :: a :: T)
    exact (List.Perm.swap a _ _).trans ((this.cons a).trans (List.Perm.swap y a T))
theorem yTake_perm2 {H : List Int} {j n : Nat} (hn : H.length = n + 1) (hj : j < n + 1) : H.Perm (H.getD j 0 :: (H.set j (H.getD n 0)).take n) := by
  have e : H.take n ++ [H.getD n 0] = H := by
    have e1 := List.take_append_drop n H
    have e2 : H.drop n = [H.getD n 0] := by
      rw [List.drop_eq_getElem_cons (by omega : n < H.length), List.drop_eq_nil_of_le (by omega)]
      rw [List.getD_eq_getElem?_getD, List.getElem?_eq_getElem (by omega)]
      rfl
    rw [e2] at e1
    exact e1
  by_cases g : j = n
  · subst g
    have e3 : (H.set j (H.getD j 0)).take j = H.take j := by
      rw [List.take_set, List.set_eq_of_length_le (by rw [List.length_take]; omega)]
    rw [e3]
    have := List.perm_append_comm (l₁ := H.take j) (l₂ := [H.getD j 0])
    rw [e] at this
    exact this
  · have e3 : (H.set j (H.getD n 0)).take n = (H.take n).set j (H.getD n 0) := List.take_set
    have e4 : H.getD j 0 = (H.take n).getD j 0 := by
      rw [List.getD_eq_getElem?_getD, List.getD_eq_getElem?_getD, List.getElem?_take_of_lt (by omega)]
    rw [e3, e4]
    have p := yTake_perm (y := H.getD n 0) (H.take n) j (by rw [List.length_take]; omega)
    have := List.perm_append_comm (l₁ := H.take n) (l₂ := [H.getD n 0])
    rw [e] at this
    exact this.trans p.symm
/-- the leaves, in their order -/
def yLf (ws : List Int) : Nat → List Int
  | 0 => []
  | t + 1 => yLf ws t ++ ws.filter fun x => decide (x = (t : Int))
theorem yLf_perm {ws : List Int} (h : ∀ x ∈ ws, 0 ≤ x) : ∀ t : Nat, (yLf ws t).Perm (ws.filter fun x => decide (x < (t : Int)))
  | 0 => by
    rw [List.filter_eq_nil_iff.mpr fun x hx q => by
      have := h x hx
      have := of_decide_eq_true q
      omega]
    exact List.Perm.refl _
  | t + 1 => by
    have q : ∀ l : List Int, ((l.filter fun x => decide (x < (t : Int))) ++ l.filter fun x => decide (x = (t : Int))).Perm (l.filter fun x => decide (x < ((t + 1 : Nat) : Int))) := fun l => by
      induction l with
      | nil => exact List.Perm.refl _
      | cons a l ih =>
        rw [List.filter_cons, List.filter_cons, List.filter_cons]
        simp only [decide_eq_true_eq]
        by_cases g1 : a < (t : Int)
        · rw [if_pos g1, if_neg (by omega), if_pos (by omega)]
          exact ih.cons a
        · by_cases g2 : a = (t : Int)
          · rw [if_neg g1, if_pos g2, if_pos (by omega)]
            exact List.perm_middle.trans (ih.cons a)
          · rw [if_neg g1, if_neg g2, if_neg (by omega)]
            exact ih
    exact ((yLf_perm h t).append_right _).trans (q ws)
theorem yLf_asc {ws : List Int} (h : ∀ x ∈ ws, 0 ≤ x) : ∀ t : Nat, yAsc (yLf ws t)
  | 0 => List.Pairwise.nil
  | t + 1 => by
    refine List.pairwise_append.mpr ⟨yLf_asc h t, ?_, fun x hx y hy => ?_⟩
    · refine List.Pairwise.imp_of_mem (R := fun _ _ => True) (fun {x y} hx hy _ => ?_) (List.pairwise_of_forall fun _ _ => trivial)
      have := of_decide_eq_true (List.mem_filter.mp hx).2
      have := of_decide_eq_true (List.mem_filter.mp hy).2
      omega
    · have := of_decide_eq_true (List.mem_filter.mp ((yLf_perm h t).mem_iff.mp hx)).2
      have := of_decide_eq_true (List.mem_filter.mp hy).2
      omega
theorem yLf_len {ws : List Int} (h : ∀ x ∈ ws, 0 ≤ x) (t j : Nat) : (yLf ws t ++ (ws.take j).filter fun x => decide (x = (t : Int))).length ≤ ws.length := by
  have e := (yLf_perm h (t + 1)).length_eq
  have e2 := List.length_filter_le (fun x => decide (x < ((t + 1 : Nat) : Int))) ws
  have e3 : ((ws.take j).filter fun x => decide (x = (t : Int))).length ≤ (ws.filter fun x => decide (x = (t : Int))).length := ((List.take_sublist j ws).filter _).length_le
  rw [yLf, List.length_append] at e
  rw [List.length_append]
  omega
theorem yLf_all {ws : List Int} (h : ∀ x ∈ ws, 0 ≤ x ∧ x ≤ 9) : (yLf ws 10).Perm ws := by
  have := yLf_perm (fun x hx => (h x hx).1) 10
  rw [List.filter_eq_self.mpr fun x hx => decide_eq_true (by have := h x hx; omega)] at this
  exact this
/-- what the join of the k least keeps -/
theorem yTot_le {S : List Int} {c : Int} : (∀ x ∈ S, x ≤ c) → yTot S ≤ c * S.length := by
  induction S with
  | nil => intro _; rw [yTot_nil, List.length_nil]; omega
  | cons a S ih =>
    intro h
    have h1 := h a List.mem_cons_self
    have h2 := ih fun x hx => h x (List.mem_cons_of_mem _ hx)
    rw [yTot_cons, List.length_cons, Int.natCast_succ, Int.mul_add, Int.mul_one]
    omega
theorem yTot_ge {S : List Int} {c : Int} : (∀ x ∈ S, c ≤ x) → c * S.length ≤ yTot S := by
  induction S with
  | nil => intro _; rw [yTot_nil, List.length_nil]; omega
  | cons a S ih =>
    intro h
    have h1 := h a List.mem_cons_self
    have h2 := ih fun x hx => h x (List.mem_cons_of_mem _ hx)
    rw [yTot_cons, List.length_cons, Int.natCast_succ, Int.mul_add, Int.mul_one]
    omega
/-- each knot that is left is at most k times each number that is left -/
def yKn (k : Nat) (K S : List Int) : Prop := ∀ q ∈ K, ∀ x ∈ S, q ≤ x * k
theorem yAsc_td {S : List Int} (h : yAsc S) (k : Nat) : ∀ x ∈ S.take k, ∀ y ∈ S.drop k, x ≤ y := by
  have e := List.take_append_drop k S
  unfold yAsc at h
  rw [← e] at h
  exact (List.pairwise_append.mp h).2.2
theorem yKn_join {k : Nat} (hk : 2 ≤ k) {K S : List Int} (hA : yAsc S) (hS : ∀ x ∈ S, 0 ≤ x) (hl : k ≤ S.length) (h : yKn k K S) : (∀ q ∈ K, q ≤ yTot (S.take k)) ∧ yKn k (K ++ [yTot (S.take k)]) (yIns (yTot (S.take k)) (S.drop k)) ∧ 0 ≤ yTot (S.take k) := by
  have ht : (S.take k).length = k := by rw [List.length_take]; omega
  have hm : ∀ x ∈ S.take k, x ∈ S := fun x hx => List.mem_of_mem_take hx
  have h0 : 0 ≤ yTot (S.take k) := yTot_nn _ fun x hx => hS x (hm x hx)
  have hself : yTot (S.take k) ≤ yTot (S.take k) * k := by
    have := Int.mul_le_mul_of_nonneg_left (show (1 : Int) ≤ k by omega) h0
    omega
  have p1 : ∀ q ∈ K, q ≤ yTot (S.take k) := fun q hq => by
    have e1 : ∀ T : List Int, (∀ x ∈ T, q ≤ x * k) → q * T.length ≤ yTot T * k := fun T => by
      induction T with
      | nil => intro _; rw [yTot_nil, List.length_nil]; omega
      | cons a T ih =>
        intro hT
        have h1 := hT a List.mem_cons_self
        have h2 := ih fun x hx => hT x (List.mem_cons_of_mem _ hx)
        rw [yTot_cons, List.length_cons, Int.natCast_succ, Int.mul_add, Int.mul_one, Int.add_mul]
        omega
    have e2 := e1 (S.take k) fun x hx => h q hq x (hm x hx)
    rw [ht] at e2
    exact Int.le_of_mul_le_mul_right e2 (by omega)
  refine ⟨p1, fun q hq x hx => ?_, h0⟩
  rcases List.mem_append.mp hq with hq | hq
  · rcases List.mem_cons.mp ((yIns_perm _).mem_iff.mp hx) with rfl | hx
    · have := p1 q hq
      omega
    · exact h q hq x (List.mem_of_mem_drop hx)
  · rw [List.mem_singleton] at hq
    subst hq
    rcases List.mem_cons.mp ((yIns_perm _).mem_iff.mp hx) with rfl | hx
    · exact hself
    · have := yTot_le (S := S.take k) (c := x) fun y hy => yAsc_td hA k y hy x hx
      rw [ht] at this
      exact this
theorem yHuf_step {k f : Nat} {S : List Int} (h : 1 < S.length) : yHuf k (f + 1) S = yTot (S.take k) + yHuf k f (yIns (yTot (S.take k)) (S.drop k)) := by
  rw [yHuf, if_neg (by omega)]
theorem yHuf_end {k f : Nat} {S : List Int} (h : S.length ≤ 1) : yHuf k f S = 0 := by
  cases f
  · rfl
  · rw [yHuf, if_pos h]
theorem yTot_take {xs : List Int} {k : Nat} (h : k < xs.length) : yTot (xs.take (k + 1)) = yTot (xs.take k) + xs.getD k 0 := ySumL_take (f := fun x => x) h
/-- how many places are left empty -/
def yEmp (n k : Int) : Int := ((k - 1) - (n - 1) % (k - 1)) % (k - 1)
theorem yEmp_ok {n k : Int} (h1 : 2 ≤ n) (h2 : n ≤ 512) (hk : 2 ≤ k ∧ k ≤ 26) : (0 ≤ yEmp n k ∧ yEmp n k ≤ 24) ∧ (n + yEmp n k - 1) % (k - 1) = 0 ∧ ∀ i : Int, 0 ≤ i → i < yEmp n k → (n + i - 1) % (k - 1) ≠ 0 := by
  unfold yEmp
  have h3 : k = 2 ∨ k = 3 ∨ k = 4 ∨ k = 5 ∨ k = 6 ∨ k = 7 ∨ k = 8 ∨ k = 9 ∨ k = 10 ∨ k = 11 ∨ k = 12 ∨ k = 13 ∨ k = 14 ∨ k = 15 ∨ k = 16 ∨ k = 17 ∨ k = 18 ∨ k = 19 ∨ k = 20 ∨ k = 21 ∨ k = 22 ∨ k = 23 ∨ k = 24 ∨ k = 25 ∨ k = 26 := by omega
  rcases h3 with rfl | rfl | rfl | rfl | rfl | rfl | rfl | rfl | rfl | rfl | rfl | rfl | rfl | rfl | rfl | rfl | rfl | rfl | rfl | rfl | rfl | rfl | rfl | rfl | rfl
  all_goals exact ⟨by omega, by omega, fun i i1 i2 => by omega⟩
/-- the least table for k letters -/
def yTbl (k : Int) (ws : List Int) : Int := if ws.length < 2 then 0 else yHuf k.toNat (ws.length + (yEmp ws.length k).toNat) (ySrt (List.replicate (yEmp ws.length k).toNat 0 ++ ws))
