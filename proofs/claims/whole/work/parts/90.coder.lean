/-! the least table, of the class -/
section ZR
variable {L : Nat} {m : Nat → Int → Int} (D : Nat) {w : Int → List Int} {b : Int → Int} {c n e : Int} {W F : Int → Int} {Z : Int → List Int}
/-- the weight of the move at a place -/
theorem zk_132 {q R a : Nat} (h : yLs L q R) (hR : R ≤ 100000) (ha : zSH L a = (100, 6)) {B : Int → Int} {xs : List Int} (hN : yMl m q B xs) (hl : xs.length ≤ R) (hW : ∀ i : Int, 0 ≤ i → i < 6 → m a i = W i) (i : Nat) (hi : i < xs.length) (ho : 1 ≤ B (xs.getD i 0 / 64) % 8 ∧ B (xs.getD i 0 / 64) % 8 ≤ 6) : zmD zP (D + 2) 132 [zr q, zi i, zr a] (zW L m) = some (some (zi (yWm W B (xs.getD i 0))), zW L m) := by
  have h1 := hN.1
  have h2 := (hN.2 i hi).2
  have hs : (zSH L a).2 = 6 := by rw [ha]
  rw [zen_132, zb_132_0, ylc h, zk_96 D h (by rw [h1]; omega), zbs, zmG_v, zb_132_5, if_pos (show 0 ≤ (i : Int) ∧ (i : Int) < m q 3 by rw [h1]; omega), h2, if_neg (by omega), zw_len (by rw [ha]; decide) (by rw [ha]; decide), zbs, hs, if_pos (show B (xs.getD i 0 / 64) % 8 - 1 < ((6 : Nat) : Int) by omega), zw_ai (congrArg Prod.fst ha) (by omega) (by rw [hs]; omega), zbs, hW _ (by omega) (by omega)]
  rfl
/-- the rows of the coder while they are filled -/
def yLv (m : Nat → Int → Int) (A : List Int) : Prop := m 20 2 = A.length ∧ (∀ i : Nat, i < A.length → m 21 i = A.getD i 0) ∧ m 20 3 = 0 ∧ m 20 4 = 0 ∧ m 20 5 = 0
def yPv (x : Nat) (_ : Int) : Prop := 20 ≤ x ∧ x ≤ 22
theorem zk_131 {A : List Int} (h : yLv m A) (hl : A.length ≤ 600) (x : Int) : ∃ m', zmD zP (D + 1) 131 [zr 20, zi x] (zW L m) = some (none, zW L m') ∧ yFq yPv m m' ∧ yLv m' (A ++ [x]) := by
  obtain ⟨h1, h2, h3⟩ := h
  rw [zen_131, zb_131_0, zgi_20, zbs, zgr_20_0, zbs, zlen_21, zbs, h1, if_pos (by omega), zbs, zbs, zsi_21 (by omega) (by omega), zbs, zgi_20, zbs, zup_ne (by decide), h1, w32_of (by omega) (by omega), zpi_20, zbs]
  refine ⟨_, rfl, ?_, ?_⟩
  · intro y j hy
    unfold yPv at hy
    rw [zup_ne (by omega), zup_ne (by omega)]
  · refine ⟨?_, fun i hi => ?_, ?_⟩
    · rw [zup_self, List.length_append, List.length_singleton, Int.natCast_succ]
    · rw [zup_ne (by decide)]
      rw [List.length_append, List.length_singleton] at hi
      by_cases g : i = A.length
      · rw [g, zup_self, yget_e rfl]
      · rw [zup_ne2 (by omega), h2 i (by omega), yget_l (by omega)]
    · rw [zup_ne2 (by decide), zup_ne (by decide), zup_ne2 (by decide), zup_ne (by decide), zup_ne2 (by decide), zup_ne (by decide)]
      exact h3
theorem yNm2_v {m' : Nat → Int → Int} {B : Int → Int} {xs : List Int} (h : yNm2 m 13 B xs) (hf : yFq yPv m m') : yNm2 m' 13 B xs := yNm2_fr h (yFr_of (lo := 20) (hi := 22) hf fun _ _ q => q) (by decide)
/-- the leaves are filled in -/
theorem zk_130 {xs : List Int} (hN : yNm2 m 13 b xs) (hle : xs.length ≤ 512) (hok : yOkv b xs) (hW : ∀ i : Int, 0 ≤ i → i < 6 → m 19 i = W i ∧ 0 ≤ W i ∧ W i ≤ 9) (k : Nat) (hk : k ≤ 24) : ∃ m', zmD zP (D + 3) 130 [zr 20, zr 13, zr 19, zi k] (zW L m) = some (none, zW L m') ∧ yFq yPv m m' ∧ yLv m' (List.replicate k 0 ++ yLf (xs.map (yWm W b)) 10) := by
  have hws : ∀ x ∈ xs.map (yWm W b), 0 ≤ x := fun x hx => by
    obtain ⟨v, hv, rfl⟩ := List.mem_map.mp hx
    obtain ⟨v1, v2, v3⟩ := hok v hv
    exact (hW _ (by omega) (by omega)).2.1
  have hwl : (xs.map (yWm W b)).length = xs.length := List.length_map _
  have hwg : ∀ i : Nat, i < xs.length → (xs.map (yWm W b)).getD i 0 = yWm W b (xs.getD i 0) := fun i hi => by
    rw [List.getD_eq_getElem?_getD, List.getD_eq_getElem?_getD, List.getElem?_map, List.getElem?_eq_getElem hi]
    rfl
  obtain ⟨ws, ews⟩ : ∃ ws, ws = xs.map (yWm W b) := ⟨_, rfl⟩
  rw [← ews] at hws hwl hwg ⊢
  rw [zen_130, zb_130_0, zpi_20, zbs, zpi_20, zbs, zpi_20, zbs, zpi_20, zbs]
  have three : ∀ (t : Nat) (l5 : Option zmV) (k2 : Nat), t + k2 = 10 → ∀ M : Nat → Int → Int, yFq yPv m M → yLv M (List.replicate k 0 ++ yLf ws t) → ∃ m', zmE (zmD zP (D+2)) zc_130 (43, [some (zr 20), some (zr 13), some (zr 19), some (zi k), some (zi t), l5], [], zW L M) = some (none, zW L m') ∧ yFq yPv m m' ∧ yLv m' (List.replicate k 0 ++ yLf ws 10) := fun t l5 k2 => by
    induction k2 generalizing t l5 with
    | zero =>
      intro ht M f1 f2
      rw [zb_130_43, if_pos (by omega)]
      rw [show t = 10 by omega] at f2
      exact ⟨M, rfl, f1, f2⟩
    | succ k2 ih =>
      intro ht M f1 f2
      rw [zb_130_43, if_neg (by omega)]
      have inn : ∀ (k3 j : Nat), j + k3 = xs.length → ∀ M : Nat → Int → Int, yFq yPv m M → yLv M (List.replicate k 0 ++ (yLf ws t ++ (ws.take j).filter fun x => decide (x = (t : Int)))) → ∃ m', zmE (zmD zP (D+2)) zc_130 (53, [some (zr 20), some (zr 13), some (zr 19), some (zi k), some (zi t), some (zi j)], [], zW L M) = some (none, zW L m') ∧ yFq yPv m m' ∧ yLv m' (List.replicate k 0 ++ yLf ws 10) := fun k3 => by
        induction k3 with
        | zero =>
          intro j hj M f1 f2
          have hN2 := yNm2_v hN f1
          rw [zb_130_53, zcv_13, zk_90 (D + 1) yLs_13, zbs, zmG_v, zb_130_59, hN2.1.1, if_neg (by omega), w32_of (by omega) (by omega)]
          rw [show j = ws.length by omega, List.take_length] at f2
          have := ih (t + 1) (some (zi j)) (by omega) M f1 f2
          rw [Int.natCast_succ] at this
          rw [show ws.length = xs.length from hwl] at *
          exact this
        | succ k3 ih3 =>
          intro j hj M f1 f2
          have hN2 := yNm2_v hN f1
          have hWM : ∀ i : Int, 0 ≤ i → i < 6 → M 19 i = W i := fun i i1 i2 => by rw [f1 19 i (by unfold yPv; omega)]; exact (hW i i1 i2).1
          have ho := yOkv_get hok (i := j) (by omega)
          have hlen := yLf_len hws t j
          have e1 : (ws.take (j + 1)).filter (fun x => decide (x = (t : Int))) = (ws.take j).filter (fun x => decide (x = (t : Int))) ++ if decide (ws.getD j 0 = (t : Int)) = true then [ws.getD j 0] else [] := yfilt_take (by omega)
          rw [zb_130_53, zcv_13, zk_90 (D + 1) yLs_13, zbs, zmG_v, zb_130_59, hN2.1.1, if_pos (by omega), zcv_13, zk_132 D yLs_13 (by decide) zh_19 hN2.1 (by omega) hWM j (by omega) ho.2, zbs, zmG_v, zb_130_69, ← hwg j (by omega)]
          have nxt : ∀ M' : Nat → Int → Int, yFq yPv m M' → yLv M' (List.replicate k 0 ++ (yLf ws t ++ (ws.take (j + 1)).filter fun x => decide (x = (t : Int)))) → ∃ m', zmE (zmD zP (D+2)) zc_130 (80, [some (zr 20), some (zr 13), some (zr 19), some (zi k), some (zi t), some (zi j)], [], zW L M') = some (none, zW L m') ∧ yFq yPv m m' ∧ yLv m' (List.replicate k 0 ++ yLf ws 10) := fun M' g1 g2 => by
            rw [zb_130_80, w32_of (by omega) (by omega)]
            exact ih3 (j + 1) (by omega) M' g1 g2
          by_cases g : ws.getD j 0 = (t : Int)
          · obtain ⟨M', r1, r2, r3⟩ := zk_131 (L := L) (D + 1) f2 (by rw [List.length_append, List.length_replicate]; omega) (t : Int)
            rw [if_pos g, zcv_20, r1, zbs, zmG_n]
            rw [if_pos (decide_eq_true g), g] at e1
            refine nxt M' (yFq_tr f1 r2) ?_
            rw [e1, ← List.append_assoc, ← List.append_assoc]
            rw [← List.append_assoc] at r3
            exact r3
          · rw [if_neg g]
            rw [if_neg (fun q => g (of_decide_eq_true q)), List.append_nil] at e1
            refine nxt M f1 ?_
            rw [e1]
            exact f2
      refine inn xs.length 0 (by omega) M f1 ?_
      rw [List.take_zero, List.filter_nil, List.append_nil]
      exact f2
  have one : ∀ (k2 i : Nat), i + k2 = k → ∀ M : Nat → Int → Int, yFq yPv m M → yLv M (List.replicate i 0) → ∃ m', zmE (zmD zP (D+2)) zc_130 (23, [some (zr 20), some (zr 13), some (zr 19), some (zi k), some (zi i), none], [], zW L M) = some (none, zW L m') ∧ yFq yPv m m' ∧ yLv m' (List.replicate k 0 ++ yLf ws 10) := fun k2 => by
    induction k2 with
    | zero =>
      intro i hi M f1 f2
      rw [zb_130_23, if_neg (by omega)]
      refine three 0 none 10 rfl M f1 ?_
      rw [show i = k by omega] at f2
      rw [yLf, List.append_nil]
      exact f2
    | succ k2 ih =>
      intro i hi M f1 f2
      obtain ⟨M', r1, r2, r3⟩ := zk_131 (L := L) (D + 1) f2 (by rw [List.length_replicate]; omega) 0
      rw [zb_130_23, if_pos (by omega), zcv_20, r1, zbs, zmG_n, zb_130_34, w32_of (by omega) (by omega)]
      rw [← List.replicate_succ'] at r3
      exact ih (i + 1) (by omega) M' (yFq_tr f1 r2) r3
  refine one k 0 (by omega) _ (fun y j hy => ?_) ⟨?_, fun i hi => absurd hi (Nat.not_lt_zero i), ?_, ?_, ?_⟩
  · unfold yPv at hy
    rw [zup_ne (by omega), zup_ne (by omega), zup_ne (by omega), zup_ne (by omega)]
  · rw [zup_ne2 (by decide), zup_ne2 (by decide), zup_ne2 (by decide), zup_self]
    rfl
  · rw [zup_ne2 (by decide), zup_ne2 (by decide), zup_self]
  · rw [zup_ne2 (by decide), zup_self]
  · rw [zup_self]
/-- what is left: leaves A, knots K; r knots were made -/
def yCo (m : Nat → Int → Int) (A K : List Int) (r : Nat) : Prop := ∃ lu ku : Nat, (m 20 4 = lu ∧ m 20 2 = ((lu + A.length : Nat) : Int) ∧ lu + A.length ≤ 600 ∧ ∀ i : Nat, i < A.length → m 21 ((lu + i : Nat) : Int) = A.getD i 0) ∧ (m 20 5 = ku ∧ m 20 3 = ((ku + K.length : Nat) : Int) ∧ ku + K.length = r ∧ ∀ i : Nat, i < K.length → m 22 ((ku + i : Nat) : Int) = K.getD i 0)
theorem yLeast {P S : List Int} {x y : Int} (h : P.Perm (x :: S)) (hS : yAsc (x :: S)) (hy : y ∈ P) (hm : ∀ z ∈ P, y ≤ z) : y = x := by
  have h1 := hm x (h.mem_iff.mpr List.mem_cons_self)
  rcases List.mem_cons.mp (h.mem_iff.mp hy) with e | e
  · exact e
  · have := (List.pairwise_cons.mp hS).1 y e
    omega
theorem zk_133 {A K S : List Int} {x : Int} {r : Nat} (h : yCo m A K r) (hr : r ≤ 600) (hA : yAsc A) (hK : yAsc K) (hp : (A ++ K).Perm (x :: S)) (hS : yAsc (x :: S)) : ∃ (m' : Nat → Int → Int) (A' K' : List Int), zmD zP (D + 1) 133 [zr 20] (zW L m) = some (some (zi x), zW L m') ∧ yFq yPv m m' ∧ yCo m' A' K' r ∧ yAsc A' ∧ yAsc K' ∧ (A' ++ K').Perm S ∧ ∀ q ∈ K', q ∈ K := by
  obtain ⟨lu, ku, ⟨a1, a2, a3, a4⟩, b1, b2, b3, b4⟩ := h
  rw [zen_133, zb_133_0, zgi_20, zbs, zgi_20, zbs, a1, a2]
  have fq : ∀ {k z : Int}, yFq yPv m (zup m 20 k z) := fun {k z} y j hy => by
    unfold yPv at hy
    exact zup_ne (by omega)
  have leaf : ∀ (y : Int) (A1 : List Int), A = y :: A1 → (∀ z ∈ K, y ≤ z) → ∃ (m' : Nat → Int → Int) (A' K' : List Int), zmE (zmD zP D) zc_133 (63, [some (zr 20), some (zi 1), some (zi (if K = [] then 0 else 1))], [], zW L m) = some (some (zi x), zW L m') ∧ yFq yPv m m' ∧ yCo m' A' K' r ∧ yAsc A' ∧ yAsc K' ∧ (A' ++ K').Perm S ∧ ∀ q ∈ K', q ∈ K := fun y A1 e hy => by
    subst e
    rw [List.length_cons] at a2 a3 a4
    obtain ⟨h1, h2⟩ := List.pairwise_cons.mp hA
    have ex : y = x := yLeast hp hS (by rw [List.cons_append]; exact List.mem_cons_self) fun z hz => by
      rw [List.cons_append] at hz
      rcases List.mem_cons.mp hz with rfl | hz
      · exact Int.le_refl _
      · rcases List.mem_append.mp hz with hz | hz
        · exact h1 z hz
        · exact hy z hz
    have e0 := a4 0 (by omega)
    rw [Nat.add_zero] at e0
    rw [zb_133_63, zgi_20, zbs, a1, w32_of (by omega) (by omega), zpi_20, zbs, zgr_20_0, zbs, zgi_20, zbs, zup_self, w32_of (by omega) (by omega), Int.add_sub_cancel, zai_21 (by omega) (by omega), zbs, zup_ne (by decide), e0]
    refine ⟨_, A1, K, by rw [← ex]; rfl, fq, ⟨lu + 1, ku, ⟨by rw [zup_self]; rfl, ?_, by omega, fun i hi => ?_⟩, by rw [zup_ne2 (by decide)]; exact b1, by rw [zup_ne2 (by decide)]; exact b2, b3, fun i hi => by rw [zup_ne (by decide)]; exact b4 i hi⟩, h2, hK, ?_, fun q hq => hq⟩
    · rw [zup_ne2 (by decide), a2]
      congr 1
      omega
    · have := a4 (i + 1) (by omega)
      rw [zup_ne (by decide), show lu + 1 + i = lu + (i + 1) by omega, this]
      rfl
    · rw [ex, List.cons_append] at hp
      exact hp.cons_inv
  have knot : ∀ (y : Int) (K1 : List Int) (l1 : Int), K = y :: K1 → (∀ z ∈ A, y ≤ z) → ∃ (m' : Nat → Int → Int) (A' K' : List Int), zmE (zmD zP D) zc_133 (85, [some (zr 20), some (zi l1), some (zi 1)], [], zW L m) = some (some (zi x), zW L m') ∧ yFq yPv m m' ∧ yCo m' A' K' r ∧ yAsc A' ∧ yAsc K' ∧ (A' ++ K').Perm S ∧ ∀ q ∈ K', q ∈ K := fun y K1 l1 e hy => by
    subst e
    rw [List.length_cons] at b2 b3 b4
    obtain ⟨h1, h2⟩ := List.pairwise_cons.mp hK
    have ex : y = x := yLeast hp hS (List.mem_append_right _ List.mem_cons_self) fun z hz => by
      rcases List.mem_append.mp hz with hz | hz
      · exact hy z hz
      · rcases List.mem_cons.mp hz with rfl | hz
        · exact Int.le_refl _
        · exact h1 z hz
    have e0 := b4 0 (by omega)
    rw [Nat.add_zero] at e0
    rw [zb_133_85, if_neg (c := (1 : Int) = 0) (by decide), zgi_20, zbs, b1, w32_of (by omega) (by omega), zpi_20, zbs, zgr_20_1, zbs, zgi_20, zbs, zup_self, w32_of (by omega) (by omega), Int.add_sub_cancel, zai_22 (by omega) (by omega), zbs, zup_ne (by decide), e0]
    refine ⟨_, A, K1, by rw [← ex]; rfl, fq, ⟨lu, ku + 1, ⟨by rw [zup_ne2 (by decide)]; exact a1, by rw [zup_ne2 (by decide)]; exact a2, a3, fun i hi => by rw [zup_ne (by decide)]; exact a4 i hi⟩, by rw [zup_self]; rfl, ?_, by omega, fun i hi => ?_⟩, hA, h2, ?_, fun q hq => List.mem_cons_of_mem _ hq⟩
    · rw [zup_ne2 (by decide), b2]
      congr 1
      omega
    · have := b4 (i + 1) (by omega)
      rw [zup_ne (by decide), show ku + 1 + i = ku + (i + 1) by omega, this]
      rfl
    · have := (List.perm_middle (a := y) (l₁ := A) (l₂ := K1)).symm.trans hp
      rw [ex] at this
      exact this.cons_inv
  rcases A with _ | ⟨y, A1⟩
  · rcases K with _ | ⟨z, K1⟩
    · have := hp.length_eq
      simp at this
    · rw [if_neg (by rw [List.length_nil]; omega), zb_133_16, zgi_20, zbs, zgi_20, zbs, b1, b2, if_pos (by rw [List.length_cons]; omega), zb_133_33, if_pos rfl]
      exact knot z K1 0 rfl fun _ h => absurd h List.not_mem_nil
  · have e0 := a4 0 (by rw [List.length_cons]; omega)
    rw [Nat.add_zero] at e0
    rw [if_pos (by rw [List.length_cons]; omega), zb_133_16, zgi_20, zbs, zgi_20, zbs, b1, b2]
    rcases K with _ | ⟨z, K1⟩
    · rw [if_neg (by rw [List.length_nil]; omega), zb_133_33, if_neg (c := (1 : Int) = 0) (by decide), if_pos rfl]
      have := leaf y A1 rfl fun _ h => absurd h List.not_mem_nil
      rw [if_pos rfl] at this
      exact this
    · have e1 := b4 0 (by rw [List.length_cons]; omega)
      rw [Nat.add_zero] at e1
      rw [List.length_cons] at a3 b3
      rw [if_pos (by rw [List.length_cons]; omega), zb_133_33, if_neg (c := (1 : Int) = 0) (by decide), if_neg (c := (1 : Int) = 0) (by decide), zgr_20_0, zbs, zgi_20, zbs, a1, zai_21 (by omega) (by omega), zbs, zgr_20_1, zbs, zgi_20, zbs, b1, zai_22 (by omega) (by omega), zbs, e0, e1]
      show ∃ (m' : Nat → Int → Int) (A' K' : List Int), (if z < y then _ else _) = _ ∧ _
      have hk1 := (List.pairwise_cons.mp hK).1
      have ha1 := (List.pairwise_cons.mp hA).1
      by_cases g : z < y
      · rw [if_pos g]
        refine knot z K1 1 rfl fun u hu => ?_
        rcases List.mem_cons.mp hu with rfl | hu
        · omega
        · have := ha1 u hu
          omega
      · rw [if_neg g]
        have := leaf y A1 rfl fun u hu => by
          rcases List.mem_cons.mp hu with rfl | hu
          · omega
          · have := hk1 u hu
            omega
        rw [if_neg (List.cons_ne_nil _ _)] at this
        exact this
end ZR
