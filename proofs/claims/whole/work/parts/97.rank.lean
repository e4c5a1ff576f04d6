/-! the best replies in their order -/
def yInR (G : Nat → Int) (x : Nat) : List Nat → List Nat
  | [] => [x]
  | y :: l => if G y < G x then x :: y :: l else y :: yInR G x l
def yRnk (G : Nat → Int) : Nat → List Nat
  | 0 => []
  | n + 1 => if 0 < G n then yInR G n (yRnk G n) else yRnk G n
def yBf (G : Nat → Int) (a b : Nat) : Prop := G b < G a ∨ G a = G b ∧ a < b
theorem yInR_perm {G : Nat → Int} {x : Nat} : ∀ l : List Nat, (yInR G x l).Perm (x :: l)
  | [] => List.Perm.refl _
  | y :: l => by
    unfold yInR
    split
    · exact List.Perm.refl _
    · exact ((yInR_perm l).cons y).trans (List.Perm.swap x y l)
theorem yRnk_mem {G : Nat → Int} {r : Nat} : ∀ n : Nat, r ∈ yRnk G n ↔ r < n ∧ 0 < G r
  | 0 => ⟨fun h => absurd h List.not_mem_nil, fun h => absurd h.1 (Nat.not_lt_zero r)⟩
  | n + 1 => by
    have ih := yRnk_mem (G := G) (r := r) n
    unfold yRnk
    by_cases g : 0 < G n
    · rw [if_pos g, (yInR_perm _).mem_iff, List.mem_cons, ih]
      constructor
      · rintro (q | q)
        · subst q
          exact ⟨by omega, g⟩
        · exact ⟨by omega, q.2⟩
      · rintro ⟨q1, q2⟩
        by_cases q3 : r = n
        · exact .inl q3
        · exact .inr ⟨by omega, q2⟩
    · rw [if_neg g, ih]
      constructor
      · rintro ⟨q1, q2⟩
        exact ⟨by omega, q2⟩
      · rintro ⟨q1, q2⟩
        refine ⟨?_, q2⟩
        by_cases q3 : r = n
        · rw [q3] at q2
          exact absurd q2 g
        · omega
theorem yInR_pw {G : Nat → Int} {x : Nat} : ∀ l : List Nat, l.Pairwise (yBf G) → (∀ y ∈ l, y < x) → (yInR G x l).Pairwise (yBf G)
  | [], _, _ => List.pairwise_singleton _ _
  | y :: l, h, hx => by
    obtain ⟨h1, h2⟩ := List.pairwise_cons.mp h
    have hy := hx y List.mem_cons_self
    unfold yInR
    by_cases g : G y < G x
    · rw [if_pos g]
      refine List.pairwise_cons.mpr ⟨fun z hz => ?_, h⟩
      rcases List.mem_cons.mp hz with rfl | hz
      · exact .inl g
      · rcases h1 z hz with q | q
        · exact .inl (by omega)
        · exact .inl (by omega)
    · rw [if_neg g]
      refine List.pairwise_cons.mpr ⟨fun z hz => ?_, yInR_pw l h2 fun z hz => hx z (List.mem_cons_of_mem _ hz)⟩
      rcases List.mem_cons.mp ((yInR_perm l).mem_iff.mp hz) with rfl | hz
      · by_cases q : G z = G y
        · exact .inr ⟨q.symm, hy⟩
        · exact .inl (by omega)
      · exact h1 z hz
theorem yRnk_pw {G : Nat → Int} : ∀ n : Nat, (yRnk G n).Pairwise (yBf G)
  | 0 => List.Pairwise.nil
  | n + 1 => by
    unfold yRnk
    split
    · exact yInR_pw _ (yRnk_pw n) fun y hy => ((yRnk_mem n).mp hy).1
    · exact yRnk_pw n
theorem yInR_split {G : Nat → Int} {x : Nat} : ∀ l : List Nat, l.Pairwise (yBf G) → ∃ A B : List Nat, l = A ++ B ∧ (∀ y ∈ A, ¬ G y < G x) ∧ (∀ y ∈ B, G y < G x) ∧ yInR G x l = A ++ x :: B
  | [], _ => ⟨[], [], rfl, fun _ h => absurd h List.not_mem_nil, fun _ h => absurd h List.not_mem_nil, rfl⟩
  | y :: l, h => by
    obtain ⟨h1, h2⟩ := List.pairwise_cons.mp h
    unfold yInR
    by_cases g : G y < G x
    · rw [if_pos g]
      refine ⟨[], y :: l, rfl, fun _ h => absurd h List.not_mem_nil, fun z hz => ?_, rfl⟩
      rcases List.mem_cons.mp hz with rfl | hz
      · exact g
      · rcases h1 z hz with q | q
        · omega
        · omega
    · rw [if_neg g]
      obtain ⟨A, B, e1, e2, e3, e4⟩ := yInR_split l h2
      refine ⟨y :: A, B, by rw [e1]; rfl, fun z hz => ?_, e3, by rw [e4]; rfl⟩
      rcases List.mem_cons.mp hz with rfl | hz
      · exact g
      · exact e2 z hz
theorem yInR_take {G : Nat → Int} {x : Nat} : ∀ (k : Nat) (l : List Nat), (yInR G x (l.take k)).take k = (yInR G x l).take k
  | 0, _ => rfl
  | k + 1, [] => rfl
  | k + 1, y :: l => by
    rw [List.take_succ_cons]
    unfold yInR
    by_cases g : G y < G x
    · rw [if_pos g, if_pos g, List.take_succ_cons, List.take_succ_cons]
      cases k with
      | zero => rfl
      | succ k =>
        rw [List.take_succ_cons, List.take_succ_cons, List.take_take, Nat.min_eq_left (by omega)]
    · rw [if_neg g, if_neg g, List.take_succ_cons, List.take_succ_cons, yInR_take k l]
theorem ynget_l {xs ys : List Nat} {i : Nat} (h : i < xs.length) : (xs ++ ys).getD i 0 = xs.getD i 0 := by
  rw [List.getD_eq_getElem?_getD, List.getD_eq_getElem?_getD, List.getElem?_append_left h]
theorem ynget_r {xs ys : List Nat} {i : Nat} (h : xs.length ≤ i) : (xs ++ ys).getD i 0 = ys.getD (i - xs.length) 0 := by
  rw [List.getD_eq_getElem?_getD, List.getD_eq_getElem?_getD, List.getElem?_append_right h]
theorem ynget_t {xs : List Nat} {k i : Nat} (h : i < k) : (xs.take k).getD i 0 = xs.getD i 0 := by
  rw [List.getD_eq_getElem?_getD, List.getD_eq_getElem?_getD, List.getElem?_take_of_lt h]
theorem ynmem {xs : List Nat} {i : Nat} (h : i < xs.length) : xs.getD i 0 ∈ xs := by
  rw [List.getD_eq_getElem?_getD, List.getElem?_eq_getElem h]
  exact List.getElem_mem h
/-- the rows of the best as they lie -/
def yTp (m : Nat → Int → Int) (xs : List Int) (G : Nat → Int) (T : List Nat) : Prop := m 23 9 = T.length ∧ ∀ i : Nat, i < T.length → m 40 i = xs.getD (T.getD i 0) 0 ∧ m 41 i = G (T.getD i 0)
def yP8 (x : Nat) (j : Int) : Prop := x = 23 ∧ j = 9 ∨ x = 40 ∨ x = 41
section ZR
variable {L : Nat} {m : Nat → Int → Int} (D : Nat)
theorem zk_151 {xs : List Int} {G : Nat → Int} {T : List Nat} (h : yTp m xs G T) (hT : T.Pairwise (yBf G)) (k : Nat) (hk : k ≤ 9) (hl : T.length ≤ k) (x : Nat) : ∃ m', zmD zP (D + 2) 151 [zr 23, zi (xs.getD x 0), zi (G x), zi k] (zW L m) = some (none, zW L m') ∧ yFq yP8 m m' ∧ yTp m' xs G ((yInR G x T).take k) := by
  obtain ⟨A, B, e1, e2, e3, e4⟩ := yInR_split (x := x) T hT
  have eT : T.length = A.length + B.length := by rw [e1, List.length_append]
  have hA : ∀ i : Nat, i < A.length → T.getD i 0 = A.getD i 0 := fun i hi => by rw [e1, ynget_l hi]
  have hB : ∀ i : Nat, i < B.length → T.getD (A.length + i) 0 = B.getD i 0 := fun i hi => by rw [e1, ynget_r (by omega), show A.length + i - A.length = i by omega]
  obtain ⟨h9, hm⟩ := h
  obtain ⟨cd, ecd⟩ : ∃ cd, cd = xs.getD x 0 := ⟨_, rfl⟩
  obtain ⟨gn, egn⟩ : ∃ gn, gn = G x := ⟨_, rfl⟩
  rw [← ecd, ← egn]
  have down : ∀ j : Nat, j ≤ B.length → zmE (zmD zP (D+1)) zc_151 (6, [some (zr 23), some (zi cd), some (zi gn), some (zi k), some (zi (((A.length + j : Nat) : Int))), none], [], zW L m) = zmE (zmD zP (D+1)) zc_151 (30, [some (zr 23), some (zi cd), some (zi gn), some (zi k), some (zi (A.length)), none], [], zW L m) := fun j => by
    induction j with
    | zero =>
      intro _
      rw [zb_151_6, Nat.add_zero]
      by_cases g : A.length = 0
      · rw [if_neg (by omega)]
      · have q := (hm (A.length - 1) (by omega)).2
        rw [hA _ (by omega)] at q
        have := e2 _ (ynmem (xs := A) (i := A.length - 1) (by omega))
        rw [if_pos (by omega), zgr_23_8, zbs, w32_of (by omega) (by omega), show (A.length : Int) - 1 = ((A.length - 1 : Nat) : Int) by omega, zai_41 (by omega) (by omega), zbs, q, egn, if_neg this]
    | succ j ih =>
      intro hj
      have q := (hm (A.length + j) (by omega)).2
      rw [hB _ (by omega)] at q
      have := e3 _ (ynmem (xs := B) (i := j) (by omega))
      rw [zb_151_6, if_pos (by omega), zgr_23_8, zbs, w32_of (z := ((A.length + (j + 1) : Nat) : Int) - 1) (by omega) (by omega), show ((A.length + (j + 1) : Nat) : Int) - 1 = ((A.length + j : Nat) : Int) by omega, zai_41 (by omega) (by omega), zbs, q, egn, if_pos this, w32_of (by omega) (by omega), show ((A.length + (j + 1) : Nat) : Int) + (-1) = ((A.length + j : Nat) : Int) by omega, ← egn]
      exact ih (by omega)
  rw [zen_151, zb_151_0, zgi_23, zbs, h9, eT, down B.length (Nat.le_refl _), zb_151_30]
  by_cases g : k ≤ A.length
  · rw [if_neg (by omega)]
    have hB0 : B = [] := List.length_eq_zero_iff.mp (by omega)
    refine ⟨m, rfl, yFq_rfl, ?_⟩
    rw [e4, List.take_append_of_le_length g]
    rw [hB0, List.append_nil] at e1
    rw [← e1, List.take_of_length_le hl]
    exact ⟨h9, hm⟩
  · obtain ⟨N, eN⟩ : ∃ N : Nat, N = min (T.length + 1) k := ⟨_, rfl⟩
    have hN : (A.length < N ∧ N ≤ T.length + 1 ∧ N ≤ k) ∧ (if (k : Int) < ((T.length : Nat) : Int) + 1 then (k : Int) else ((T.length : Nat) : Int) + 1) = (N : Int) := by
      rw [eN]
      split <;> omega
    have hlen : ((A ++ x :: B).take k).length = N := by
      rw [List.length_take, List.length_append, List.length_cons, eN]
      omega
    rw [if_pos (by omega), zgi_23, zbs, h9, w32_of (by omega) (by omega), zk_35, zbs, zmG_v, hN.2, zb_151_48, zpi_23, zbs, zgi_23, zbs, zup_self, w32_of (by omega) (by omega)]
    have shift : ∀ (j : Nat) (M : Nat → Int → Int), A.length + j < N → yFq yP8 m M → M 23 9 = N → (∀ i : Nat, i ≤ A.length + j → i < T.length → M 40 i = m 40 i ∧ M 41 i = m 41 i) → (∀ i : Nat, A.length + j < i → i < N → M 40 i = m 40 ((i - 1 : Nat) : Int) ∧ M 41 i = m 41 ((i - 1 : Nat) : Int)) → ∃ m', zmE (zmD zP (D+1)) zc_151 (59, [some (zr 23), some (zi cd), some (zi gn), some (zi k), some (zi (A.length)), some (zi (((A.length + j : Nat) : Int)))], [], zW L M) = some (none, zW L m') ∧ yFq yP8 m m' ∧ m' 23 9 = N ∧ (∀ i : Nat, i < A.length → m' 40 i = m 40 i ∧ m' 41 i = m 41 i) ∧ (m' 40 A.length = cd ∧ m' 41 A.length = gn) ∧ ∀ i : Nat, A.length < i → i < N → m' 40 i = m 40 ((i - 1 : Nat) : Int) ∧ m' 41 i = m 41 ((i - 1 : Nat) : Int) := fun j => by
      induction j with
      | zero =>
        intro M hj f1 f2 f3 f4
        rw [zb_151_59, if_neg (by omega), zgr_23_7, zbs, zsi_40 (by omega) (by omega), zbs, zgr_23_8, zbs, zsi_41 (by omega) (by omega), zbs]
        refine ⟨_, rfl, fun y i hy => ?_, ?_, fun i hi => ?_, ?_, fun i h1 h2 => ?_⟩
        · unfold yP8 at hy
          rw [zup_ne (by omega), zup_ne (by omega)]
          exact f1 y i (by unfold yP8; omega)
        · rw [zup_ne (by decide), zup_ne (by decide), f2]
        · have := f3 i (by omega) (by omega)
          rw [zup_ne (by decide), zup_ne2 (by omega), zup_ne2 (by omega), zup_ne (by decide)]
          exact this
        · rw [zup_ne (by decide), zup_self, zup_self]
          exact ⟨rfl, rfl⟩
        · have := f4 i (by omega) h2
          rw [zup_ne (by decide), zup_ne2 (by omega), zup_ne2 (by omega), zup_ne (by decide)]
          exact this
      | succ j ih =>
        intro M hj f1 f2 f3 f4
        obtain ⟨q1, q2⟩ := f3 (A.length + j) (by omega) (by omega)
        rw [zb_151_59, if_pos (by omega), zgr_23_7, zbs, zbs, w32_of (z := ((A.length + (j + 1) : Nat) : Int) - 1) (by omega) (by omega), show ((A.length + (j + 1) : Nat) : Int) - 1 = ((A.length + j : Nat) : Int) by omega, zai_40 (by omega) (by omega), zbs, q1, zsi_40 (by omega) (by omega), zbs, zgr_23_8, zbs, zbs, zai_41 (by omega) (by omega), zbs, zup_ne (by decide), q2, zsi_41 (by omega) (by omega), zbs, w32_of (by omega) (by omega), show ((A.length + (j + 1) : Nat) : Int) + (-1) = ((A.length + j : Nat) : Int) by omega]
        refine ih _ (by omega) (fun y i hy => ?_) ?_ (fun i h1 h2 => ?_) fun i h1 h2 => ?_
        · unfold yP8 at hy
          rw [zup_ne (by omega), zup_ne (by omega)]
          exact f1 y i (by unfold yP8; omega)
        · rw [zup_ne (by decide), zup_ne (by decide), f2]
        · have := f3 i (by omega) (by omega)
          rw [zup_ne (by decide), zup_ne2 (by omega), zup_ne2 (by omega), zup_ne (by decide)]
          exact this
        · by_cases g2 : i = A.length + (j + 1)
          · rw [g2, zup_ne (by decide), zup_self, zup_self, show A.length + (j + 1) - 1 = A.length + j by omega]
            exact ⟨rfl, rfl⟩
          · have := f4 i (by omega) h2
            rw [zup_ne (by decide), zup_ne2 (by omega), zup_ne2 (by omega), zup_ne (by decide)]
            exact this
    obtain ⟨m', r1, r2, r3, r4, r5, r6⟩ := shift (N - 1 - A.length) (zup m 23 9 N) (by omega) (fun y i hy => by
      unfold yP8 at hy
      by_cases g2 : y = 23
      · subst g2
        exact zup_ne2 (by omega)
      · exact zup_ne g2) zup_self (fun i _ _ => ⟨by rw [zup_ne (by decide)], by rw [zup_ne (by decide)]⟩) fun i h1 h2 => by omega
    rw [show ((A.length + (N - 1 - A.length) : Nat) : Int) = (N : Int) - 1 by omega] at r1
    refine ⟨m', r1, r2, ?_⟩
    rw [e4]
    refine ⟨by rw [hlen, r3], fun i hi => ?_⟩
    rw [hlen] at hi
    rw [ynget_t (by omega)]
    by_cases g1 : i < A.length
    · have := hm i (by omega)
      rw [hA i g1] at this
      obtain ⟨q1, q2⟩ := r4 i g1
      rw [ynget_l g1, q1, q2]
      exact this
    · by_cases g2 : i = A.length
      · rw [g2, ynget_r (by omega), Nat.sub_self]
        show m' 40 _ = xs.getD x 0 ∧ m' 41 _ = G x
        rw [r5.1, r5.2, ecd, egn]
        exact ⟨rfl, rfl⟩
      · have := hm (A.length + (i - 1 - A.length)) (by omega)
        rw [hB _ (by omega), show A.length + (i - 1 - A.length) = i - 1 by omega] at this
        obtain ⟨q1, q2⟩ := r6 i (by omega) hi
        rw [ynget_r (by omega), show i - A.length = (i - 1 - A.length) + 1 by omega, q1, q2]
        exact this
end ZR
