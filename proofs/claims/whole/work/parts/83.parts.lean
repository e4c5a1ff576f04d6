/-! the parts of a faultless game -/
theorem yGr_runs : ∀ (w : List Int) (g : Nat) (s k : Int), 0 ≤ k → yGr g s w k = -1 → ∀ p ps, yPcs w = p :: ps → yRun s p 0 = -1 ∧ ∀ q ∈ ps, yRun 0 q 0 = -1
  | [], g, s, k, hk, h, p, ps, e => by
    rw [yGr_nil] at h
    have e1 := (List.cons.inj e).1
    have e2 := (List.cons.inj e).2
    rw [← e1, ← e2]
    refine ⟨?_, fun q hq => absurd hq List.not_mem_nil⟩
    rw [yRun_nil]
    by_cases g1 : yT (yEnds s) = 0
    · rw [if_pos g1] at h
      omega
    · rw [if_neg g1]
  | b :: w, g, s, k, hk, h, p, ps, e => by
    rw [yGr_cons] at h
    rw [yPcs] at e
    by_cases g1 : b = 59
    · rw [if_pos g1] at e
      have e1 := (List.cons.inj e).1
      have e2 := (List.cons.inj e).2
      rw [← e1, ← e2]
      by_cases g2 : yT (yEnds s) = 0
      · rw [if_neg (fun q => q.2 g2), g1, yNext_59, if_pos rfl] at h
        omega
      · rw [if_pos ⟨g1, g2⟩] at h
        by_cases g3 : g = 0
        · rw [if_pos g3] at h
          omega
        · rw [if_neg g3] at h
          have ih := yGr_runs w (g - 1) 0 (k + 1) (by omega) h
          refine ⟨by rw [yRun_nil, if_neg g2], fun q hq => ?_⟩
          cases hw : yPcs w with
          | nil => exact absurd hw (yPcs_ne w)
          | cons p' ps' =>
            have := ih p' ps' hw
            rw [hw] at hq
            rcases List.mem_cons.mp hq with rfl | hq
            · exact this.1
            · exact this.2 q hq
    · rw [if_neg (fun q => g1 q.1)] at h
      rw [if_neg g1] at e
      by_cases g2 : yNext s b = 7
      · rw [if_pos g2] at h
        omega
      · rw [if_neg g2] at h
        have ih := yGr_runs w g _ (k + 1) (by omega) h
        cases hw : yPcs w with
        | nil => exact absurd hw (yPcs_ne w)
        | cons p' ps' =>
          rw [hw] at e
          have e1 := (List.cons.inj e).1
          have e2 := (List.cons.inj e).2
          have := ih p' ps' hw
          rw [← e1, ← e2, yRun_cons, if_neg g2]
          exact ⟨(yRun_shift p' 0 _ (by decide) (by decide)).mp this.1, this.2⟩
theorem yGa_run {w : List Int} (i : Nat) (hi : i < (yGa w).length) : yRun 0 ((yGa w).getD i []) 0 = -1 := by
  by_cases h : w = [] ∨ yGf w ≠ -1
  · rw [yGa_no h] at hi
    exact absurd hi (Nat.not_lt_zero i)
  · have h1 : w ≠ [] := fun q => h (.inl q)
    have h2 : yGf w = -1 := Classical.byContradiction fun q => h (.inr q)
    rw [yGa_ok h1 h2] at hi ⊢
    unfold yGf at h2
    rw [if_neg h1] at h2
    have ih := yGr_runs w 11 0 0 (by decide) h2
    cases hw : yPcs w with
    | nil => exact absurd hw (yPcs_ne w)
    | cons p ps =>
      have := ih p ps hw
      rw [hw] at hi
      cases i with
      | zero => exact this.1
      | succ i =>
        refine this.2 _ ?_
        show ps.getD i [] ∈ ps
        have hi' := Nat.lt_of_succ_lt_succ hi
        rw [List.getD_eq_getElem?_getD, List.getElem?_eq_getElem hi']
        exact List.getElem_mem hi'
theorem yOff_1 {p : List Int} {ps : List (List Int)} {j : Nat} : yOff (p :: ps) (j + 1) = p.length + 1 + yOff ps j := rfl
theorem yPcs_at : ∀ (w : List Int) (i : Nat), i < (yPcs w).length → yOff (yPcs w) i + ((yPcs w).getD i []).length ≤ w.length ∧ (w.drop (yOff (yPcs w) i)).take ((yPcs w).getD i []).length = (yPcs w).getD i [] ∧ yOff (yPcs w) (i + 1) = yOff (yPcs w) i + ((yPcs w).getD i []).length + 1
  | [], i, h => by
    have : i = 0 := by
      have : i < 1 := h
      omega
    subst this
    decide
  | b :: w, i, h => by
    rw [yPcs] at h ⊢
    by_cases g : b = 59
    · rw [if_pos g] at h ⊢
      cases i with
      | zero =>
        rw [yOff_0, yOff_1, yOff_0]
        refine ⟨by show 0 + 0 ≤ _; omega, ?_, rfl⟩
        show List.take 0 _ = []
        rw [List.take_zero]
      | succ i =>
        obtain ⟨h1, h2, h3⟩ := yPcs_at w i (Nat.lt_of_succ_lt_succ h)
        rw [yOff_1, yOff_1, h3]
        have e : (([] : List Int) :: yPcs w).getD (i + 1) [] = (yPcs w).getD i [] := rfl
        rw [e, List.length_nil, show 0 + 1 + yOff (yPcs w) i = yOff (yPcs w) i + 1 by omega, List.drop_succ_cons]
        exact ⟨by rw [List.length_cons]; omega, h2, by omega⟩
    · rw [if_neg g] at h ⊢
      have ih := yPcs_at w
      cases hw : yPcs w with
      | nil => exact absurd hw (yPcs_ne w)
      | cons p ps =>
        rw [hw] at ih h
        cases i with
        | zero =>
          obtain ⟨h1, h2, h3⟩ := ih 0 (by rw [List.length_cons]; omega)
          rw [yOff_0, List.drop_zero] at h2
          have e : (p :: ps).getD 0 [] = p := rfl
          rw [e] at h1 h2
          rw [yOff_0] at h1
          show yOff ((b :: p) :: ps) 0 + (b :: p).length ≤ (b :: w).length ∧ ((b :: w).drop (yOff ((b :: p) :: ps) 0)).take (b :: p).length = b :: p ∧ yOff ((b :: p) :: ps) (0 + 1) = yOff ((b :: p) :: ps) 0 + (b :: p).length + 1
          rw [yOff_0, yOff_1, yOff_0, List.drop_zero, List.length_cons, List.length_cons, List.take_succ_cons, h2]
          exact ⟨by omega, rfl, by omega⟩
        | succ i =>
          obtain ⟨h1, h2, h3⟩ := ih (i + 1) h
          have e : (p :: ps).getD (i + 1) [] = ps.getD i [] := rfl
          rw [e, yOff_1] at h1 h2 h3
          rw [yOff_1] at h3
          show yOff ((b :: p) :: ps) (i + 1) + (ps.getD i []).length ≤ (b :: w).length ∧ ((b :: w).drop (yOff ((b :: p) :: ps) (i + 1))).take (ps.getD i []).length = ps.getD i [] ∧ yOff ((b :: p) :: ps) (i + 1 + 1) = yOff ((b :: p) :: ps) (i + 1) + (ps.getD i []).length + 1
          rw [yOff_1, yOff_1, List.length_cons, List.length_cons, show p.length + 1 + 1 + yOff ps i = p.length + 1 + yOff ps i + 1 by omega, List.drop_succ_cons]
          exact ⟨by omega, h2, by omega⟩
