/-! the least table, class and reference -/
theorem yTot_tk {S : List Int} (h : ∀ x ∈ S, 0 ≤ x) (i : Nat) : 0 ≤ yTot (S.take i) ∧ yTot (S.take i) ≤ yTot S := by
  have e := yTot_app (S.take i) (S.drop i)
  rw [List.take_append_drop] at e
  have h1 := yTot_nn (S.take i) fun x hx => h x (List.mem_of_mem_take hx)
  have h2 := yTot_nn (S.drop i) fun x hx => h x (List.mem_of_mem_drop hx)
  omega
theorem yAsc_drop {S : List Int} (h : yAsc S) (i : Nat) : yAsc (S.drop i) := h.sublist (List.drop_sublist i S)
theorem yDrop_c {S : List Int} {i : Nat} (h : i < S.length) : S.drop i = S.getD i 0 :: S.drop (i + 1) := by
  rw [List.drop_eq_getElem_cons h, List.getD_eq_getElem?_getD, List.getElem?_eq_getElem h]
  rfl
/-- the numbers that a round of joins goes on with -/
def yRud (k : Nat) (S : List Int) : Prop := yAsc S ∧ (∀ x ∈ S, 0 ≤ x) ∧ yTot S ≤ 4608 ∧ ((k : Int) - 1) ∣ ((S.length : Int) - 1)
theorem yRud_go {k : Nat} (hk : 2 ≤ k) {S : List Int} (h : yRud k S) (h1 : 1 < S.length) : k ≤ S.length ∧ yRud k (yIns (yTot (S.take k)) (S.drop k)) ∧ (yIns (yTot (S.take k)) (S.drop k)).length + k = S.length + 1 := by
  obtain ⟨h2, h3, h4, h5⟩ := h
  have hl : k ≤ S.length := by
    have := Int.le_of_dvd (by omega) h5
    omega
  have e := (yIns_perm (x := yTot (S.take k)) (S.drop k)).length_eq
  rw [List.length_cons, List.length_drop] at e
  refine ⟨hl, ⟨yIns_asc _ (yAsc_drop h2 k), fun x hx => ?_, ?_, ?_⟩, by omega⟩
  · rcases List.mem_cons.mp ((yIns_perm _).mem_iff.mp hx) with rfl | hx
    · exact (yTot_tk h3 k).1
    · exact h3 x (List.mem_of_mem_drop hx)
  · have e2 := yTot_perm (yIns_perm (x := yTot (S.take k)) (S.drop k))
    have e3 := yTot_app (S.take k) (S.drop k)
    rw [List.take_append_drop] at e3
    rw [yTot_cons] at e2
    omega
  · have := Int.dvd_sub h5 (Int.dvd_refl _)
    rw [show ((yIns (yTot (S.take k)) (S.drop k)).length : Int) - 1 = (S.length : Int) - 1 - ((k : Int) - 1) by omega]
    exact this
theorem yRud_0 {ws : List Int} {k : Nat} (hk : 2 ≤ k ∧ k ≤ 26) (hl : 2 ≤ ws.length ∧ ws.length ≤ 512) (hw : ∀ x ∈ ws, 0 ≤ x ∧ x ≤ 9) : yRud k (ySrt (List.replicate (yEmp ws.length k).toNat 0 ++ ws)) ∧ (ySrt (List.replicate (yEmp ws.length k).toNat 0 ++ ws)).length = ws.length + (yEmp ws.length k).toNat := by
  obtain ⟨e1, e2, e3⟩ := yEmp_ok (n := ws.length) (k := k) (by omega) (by omega) (by omega)
  have p := ySrt_perm (List.replicate (yEmp ws.length k).toNat 0 ++ ws)
  have pl := p.length_eq
  rw [List.length_append, List.length_replicate] at pl
  refine ⟨⟨ySrt_asc _, fun x hx => ?_, ?_, ?_⟩, by omega⟩
  · rcases List.mem_append.mp (p.mem_iff.mp hx) with q | q
    · rw [List.eq_of_mem_replicate q]
      exact Int.le_refl 0
    · exact (hw x q).1
  · rw [yTot_perm p, yTot_app]
    have h1 := yTot_le (S := ws) (c := 9) fun x hx => (hw x hx).2
    have h2 := yTot_le (S := List.replicate (yEmp ws.length k).toNat 0) (c := 0) fun x hx => by rw [List.eq_of_mem_replicate hx]; exact Int.le_refl 0
    omega
  · refine Int.dvd_of_emod_eq_zero ?_
    rw [show ((ySrt (List.replicate (yEmp ws.length k).toNat 0 ++ ws)).length : Int) - 1 = (ws.length : Int) + yEmp ws.length k - 1 by omega]
    exact e2
section ZR
variable {L : Nat} {m : Nat → Int → Int} (D : Nat) {w : Int → List Int} {b : Int → Int} {c n e : Int} {W F : Int → Int} {Z : Int → List Int}
theorem yPv_hold : ∀ x j, yHold x j → ¬ yPv x j := fun x j h q => by
  unfold yHold at h
  unfold yPv at q
  omega
theorem yPv_fr {m m' : Nat → Int → Int} (h : yFq yPv m m') : yFr 0 97 m m' := yFr_of h fun x j q => by
  unfold yPv at q
  omega
/-- a round of the class: the k least, one after another -/
theorem zk_129r (k : Nat) (hk : 2 ≤ k ∧ k ≤ 26) {S A K : List Int} {r : Nat} (hS : yRud k S) (hr : r ≤ 600) (hA : yAsc A) (hK : yAsc K) (hp : (A ++ K).Perm S) (hC : yCo m A K r) (hl : k ≤ S.length) (e4 e5 e6 e7 : Int) : ∃ (m' : Nat → Int → Int) (A' K' : List Int), zmE (zmD zP (D+4)) zc_129 (68, [some (zr 20), some (zr 13), some (zr 19), some (zi k), some (zi e4), some (zi e5), some (zi e6), some (zi e7), some (zi 0), some (zi 0)], [], zW L m) = zmE (zmD zP (D+4)) zc_129 (68, [some (zr 20), some (zr 13), some (zr 19), some (zi k), some (zi e4), some (zi e5), some (zi e6), some (zi e7), some (zi (yTot (S.take k))), some (zi k)], [], zW L m') ∧ yFq yPv m m' ∧ yCo m' A' K' r ∧ yAsc A' ∧ yAsc K' ∧ (A' ++ K').Perm (S.drop k) ∧ ∀ q ∈ K', q ∈ K := by
  obtain ⟨h2, h3, h4, h5⟩ := hS
  have go : ∀ i : Nat, i ≤ k → ∃ (m' : Nat → Int → Int) (A' K' : List Int), zmE (zmD zP (D+4)) zc_129 (68, [some (zr 20), some (zr 13), some (zr 19), some (zi k), some (zi e4), some (zi e5), some (zi e6), some (zi e7), some (zi 0), some (zi 0)], [], zW L m) = zmE (zmD zP (D+4)) zc_129 (68, [some (zr 20), some (zr 13), some (zr 19), some (zi k), some (zi e4), some (zi e5), some (zi e6), some (zi e7), some (zi (yTot (S.take i))), some (zi i)], [], zW L m') ∧ yFq yPv m m' ∧ yCo m' A' K' r ∧ yAsc A' ∧ yAsc K' ∧ (A' ++ K').Perm (S.drop i) ∧ ∀ q ∈ K', q ∈ K := fun i => by
    induction i with
    | zero => exact fun _ => ⟨m, A, K, rfl, yFq_rfl, hC, hA, hK, hp, fun _ h => h⟩
    | succ i ih =>
      intro hi
      obtain ⟨M, A1, K1, r1, r2, r3, r4, r5, r6, r7⟩ := ih (by omega)
      rw [yDrop_c (by omega)] at r6
      have ha : yAsc (S.getD i 0 :: S.drop (i + 1)) := by
        rw [← yDrop_c (by omega)]
        exact yAsc_drop h2 i
      obtain ⟨M2, A2, K2, s1, s2, s3, s4, s5, s6, s7⟩ := zk_133 (L := L) (D + 3) r3 hr r4 r5 r6 ha
      have t1 := yTot_tk h3 i
      have t2 := yTot_tk h3 (i + 1)
      have t3 := yTot_take (xs := S) (k := i) (by omega)
      rw [r1, zb_129_68, if_pos (by omega), zcv_20, s1, zbs, zmG_v, zb_129_80, w32_of (z := yTot (S.take i) + S.getD i 0) (by omega) (by omega), w32_of (z := (i : Int) + 1) (by omega) (by omega), ← t3]
      exact ⟨M2, A2, K2, by rw [Int.natCast_succ], yFq_tr r2 s2, s3, s4, s5, s6, fun q hq => r7 q (s7 q hq)⟩
  exact go k (Nat.le_refl k)
theorem zk_129l (k : Nat) (hk : 2 ≤ k ∧ k ≤ 26) (e5 : Int) : ∀ (f : Nat) (S A K : List Int) (r : Nat) (M : Nat → Int → Int) (acc : Int) (o8 o9 : Option zmV), S.length ≤ f → yRud k S → r + S.length ≤ 600 → yAsc A → yAsc K → (A ++ K).Perm S → yCo M A K r → yKn k K S → 0 ≤ acc ∧ acc ≤ 4608 * r → ∃ m', zmE (zmD zP (D+4)) zc_129 (57, [some (zr 20), some (zr 13), some (zr 19), some (zi k), some (zi ((k : Int) - 1)), some (zi e5), some (zi acc), some (zi ((S.length : Int) - 1)), o8, o9], [], zW L M) = some (some (zi (acc + yHuf k f S)), zW L m') ∧ yFq yPv M m' := fun f => by
  induction f with
  | zero =>
    intro S A K r M acc o8 o9 hf hS hr hA hK hp hC hN ha
    rw [zb_129_57, if_neg (by omega), yHuf_end (by omega), Int.add_zero]
    exact ⟨M, rfl, yFq_rfl⟩
  | succ f ih =>
    intro S A K r M acc o8 o9 hf hS hr hA hK hp hC hN ha
    by_cases g : 1 < S.length
    · obtain ⟨q1, q2, q3⟩ := yRud_go hk.1 hS g
      obtain ⟨M1, A1, K1, r1, r2, r3, r4, r5, r6, r7⟩ := zk_129r (L := L) (m := M) D k hk hS (by omega) hA hK hp hC q1 ((k : Int) - 1) e5 acc ((S.length : Int) - 1)
      have t1 := yTot_tk hS.2.1 k
      have t2 := hS.2.2.1
      obtain ⟨n1, n2, n3⟩ := yKn_join hk.1 (K := K1) hS.1 hS.2.1 q1 fun q hq => hN q (r7 q hq)
      obtain ⟨lu, ku, ⟨a1, a2, a3, a4⟩, b1, b2, b3, b4⟩ := r3
      rw [zb_129_57, if_pos (by omega), r1, zb_129_68, if_neg (by omega), zgi_20, zbs, zgr_20_1, zbs, zlen_22, zbs, b2, if_pos (by omega), zbs, zbs, zsi_22 (by omega) (by omega), zbs, zgi_20, zbs, zup_ne (by decide), b2, w32_of (by omega) (by omega), zpi_20, zbs, w32_of (z := acc + yTot (S.take k)) (by omega) (by omega), zb_129_129, w32_of (by omega) (by omega), show (S.length : Int) - 1 - ((k : Int) - 1) = ((yIns (yTot (S.take k)) (S.drop k)).length : Int) - 1 by omega]
      have hC2 : yCo (zup (zup M1 22 ((ku + K1.length : Nat) : Int) (yTot (S.take k))) 20 3 (((ku + K1.length : Nat) : Int) + 1)) A1 (K1 ++ [yTot (S.take k)]) (r + 1) := by
        refine ⟨lu, ku, ⟨by rw [zup_ne2 (by decide), zup_ne (by decide)]; exact a1, by rw [zup_ne2 (by decide), zup_ne (by decide)]; exact a2, a3, fun i hi => by rw [zup_ne (by decide), zup_ne (by decide)]; exact a4 i hi⟩, by rw [zup_ne2 (by decide), zup_ne (by decide)]; exact b1, ?_, ?_, fun i hi => ?_⟩
        · rw [zup_self, List.length_append, List.length_singleton]
          rfl
        · rw [List.length_append, List.length_singleton]
          omega
        · rw [List.length_append, List.length_singleton] at hi
          rw [zup_ne (by decide)]
          by_cases g2 : i = K1.length
          · rw [g2, zup_self, yget_e rfl]
          · rw [zup_ne2 (by omega), b4 i (by omega), yget_l (by omega)]
      obtain ⟨m', u1, u2⟩ := ih (yIns (yTot (S.take k)) (S.drop k)) A1 (K1 ++ [yTot (S.take k)]) (r + 1) _ (acc + yTot (S.take k)) (some (zi (yTot (S.take k)))) (some (zi k)) (by omega) q2 (by omega) r4 (List.pairwise_append.mpr ⟨r5, List.pairwise_singleton _ _, fun x hx y hy => by
        rw [List.mem_singleton] at hy
        rw [hy]
        exact n1 x hx⟩) (by
          rw [← List.append_assoc]
          exact ((r6.append_right _).trans List.perm_append_comm).trans (yIns_perm _).symm) hC2 n2 (by omega)
      refine ⟨m', ?_, yFq_tr (yFq_tr r2 ?_) u2⟩
      · rw [u1, yHuf_step g, Int.add_assoc]
      · intro y j hy
        unfold yPv at hy
        rw [zup_ne (by omega), zup_ne (by omega)]
    · rw [zb_129_57, if_neg (by omega), yHuf_end (by omega), Int.add_zero]
      exact ⟨M, rfl, yFq_rfl⟩
theorem yWs_get {xs : List Int} {i : Nat} (hi : i < xs.length) : (xs.map (yWm W b)).getD i 0 = yWm W b (xs.getD i 0) := by
  rw [List.getD_eq_getElem?_getD, List.getD_eq_getElem?_getD, List.getElem?_map, List.getElem?_eq_getElem hi]
  rfl
theorem yWs_in {xs : List Int} (hok : yOkv b xs) (hW : ∀ i : Int, 0 ≤ i → i < 6 → 0 ≤ W i ∧ W i ≤ 9) : ∀ x ∈ xs.map (yWm W b), 0 ≤ x ∧ x ≤ 9 := fun x hx => by
  obtain ⟨v, hv, rfl⟩ := List.mem_map.mp hx
  obtain ⟨v1, v2, v3⟩ := hok v hv
  exact hW _ (by omega) (by omega)
theorem zk_129 {xs : List Int} (hN : yNm2 m 13 b xs) (hle : xs.length ≤ 512) (hok : yOkv b xs) (hW : ∀ i : Int, 0 ≤ i → i < 6 → m 19 i = W i ∧ 0 ≤ W i ∧ W i ≤ 9) (k : Nat) (hk : 2 ≤ k ∧ k ≤ 26) : ∃ m', zmD zP (D + 5) 129 [zr 20, zr 13, zr 19, zi k] (zW L m) = some (some (zi (yTbl k (xs.map (yWm W b)))), zW L m') ∧ yFq yPv m m' := by
  have hwl : (xs.map (yWm W b)).length = xs.length := List.length_map _
  have hws := yWs_in hok fun i i1 i2 => (hW i i1 i2).2
  rw [zen_129, zb_129_0, zcv_13, zk_90 (D + 3) yLs_13, zbs, zmG_v, zb_129_9, hN.1.1]
  unfold yTbl
  by_cases g : xs.length < 2
  · rw [if_pos (by omega), if_pos (by omega)]
    exact ⟨m, rfl, yFq_rfl⟩
  · obtain ⟨e1, e2, e3⟩ := yEmp_ok (n := xs.length) (k := k) (by omega) (by omega) (by omega)
    have p1 : 0 ≤ ((xs.length : Int) - 1) % ((k : Int) - 1) := Int.emod_nonneg _ (by omega)
    have p2 : ((xs.length : Int) - 1) % ((k : Int) - 1) < (k : Int) - 1 := Int.emod_lt_of_pos _ (by omega)
    obtain ⟨q1, q2⟩ := yRud_0 (ws := xs.map (yWm W b)) hk (by omega) hws
    rw [hwl] at q1 q2
    rw [if_neg (c := (xs.length : Int) < 2) (by omega), w32_of (z := (k : Int) - 1) (by omega) (by omega), if_neg (c := (k : Int) - 1 < 1) (by omega), zcv_13, zk_90 (D + 3) yLs_13, zbs, zmG_v, zb_129_27, hN.1.1, if_neg (c := (k : Int) - 1 = 0) (by omega), if_neg (c := (k : Int) - 1 = 0) (by omega), w32_of (z := (xs.length : Int) - 1) (by omega) (by omega), z_rem_of (x := (xs.length : Int) - 1) (by omega) (by omega) (by omega) (by omega), w32_of (z := (k : Int) - 1 - ((xs.length : Int) - 1) % ((k : Int) - 1)) (by omega) (by omega), z_rem_of (by omega) (by omega) (by omega) (by omega), if_neg (c := (xs.map (yWm W b)).length < 2) (by omega), hwl]
    have eE : ((k : Int) - 1 - ((xs.length : Int) - 1) % ((k : Int) - 1)) % ((k : Int) - 1) = ((yEmp xs.length k).toNat : Nat) := by
      show yEmp xs.length k = _
      omega
    obtain ⟨M, r1, r2, r3⟩ := zk_130 (L := L) (D + 1) hN hle hok hW (yEmp xs.length k).toNat (by omega)
    have pl := yLf_all hws
    have pl2 := pl.length_eq
    have ll : (List.replicate (yEmp xs.length k).toNat (0 : Int) ++ yLf (xs.map (yWm W b)) 10).length = xs.length + (yEmp xs.length k).toNat := by
      rw [List.length_append, List.length_replicate]
      omega
    rw [eE, zb_129_38, zcv_20, r1, zbs, zmG_n, zb_129_46, zgi_20, zbs, r3.1, ll, w32_of (by omega) (by omega)]
    have hC : yCo M (List.replicate (yEmp xs.length k).toNat 0 ++ yLf (xs.map (yWm W b)) 10) [] 0 := by
      refine ⟨0, 0, ⟨r3.2.2.2.1, by rw [r3.1, Nat.zero_add], by rw [ll]; omega, fun i hi => by rw [Nat.zero_add]; exact r3.2.1 i hi⟩, r3.2.2.2.2, r3.2.2.1, rfl, fun i hi => absurd hi (Nat.not_lt_zero i)⟩
    have hA : yAsc (List.replicate (yEmp xs.length k).toNat 0 ++ yLf (xs.map (yWm W b)) 10) := List.pairwise_append.mpr ⟨List.pairwise_replicate.mpr (.inr (Int.le_refl 0)), yLf_asc (fun x hx => (hws x hx).1) 10, fun x hx y hy => by
      rw [List.eq_of_mem_replicate hx]
      exact (hws y (pl.mem_iff.mp hy)).1⟩
    obtain ⟨m', u1, u2⟩ := zk_129l (L := L) D k hk ((yEmp xs.length k).toNat : Nat) (xs.length + (yEmp xs.length k).toNat) (ySrt (List.replicate (yEmp xs.length k).toNat 0 ++ xs.map (yWm W b))) _ [] 0 M 0 none none (by omega) q1 (by omega) hA List.Pairwise.nil (by
      rw [List.append_nil]
      exact (pl.append_left _).trans (ySrt_perm _).symm) hC (fun q hq => absurd hq List.not_mem_nil) (by omega)
    rw [q2, Int.zero_add] at u1
    exact ⟨m', u1, yFq_tr r2 u2⟩
theorem yk_128 (h : yCs m w b c n e W F Z) (k : Int) : ∃ m', zmD zP (D + 6) 128 [zr 0, zi k] (zW L m) = some (some (zi (if 2 ≤ k ∧ k ≤ 26 then yTbl k ((yMv b c).map (yWm W b)) else -2)), zW L m') ∧ yFr 0 97 m m' ∧ yCs m' w b c n e W F Z := by
  rw [zen_128, zb_128_0]
  by_cases g : 2 ≤ k ∧ k ≤ 26
  · obtain ⟨M, r1, r2, r3, r4⟩ := yk_74 (L := L) D h
    have hle := yMv_le (b := b) (c := c) (yCs_pu h).2.2.2
    obtain ⟨m', s1, s2⟩ := zk_129 (L := L) D r4 hle (yPu_ok (yCs_pu h)) r3.2.2.2.2.2.1 k.toNat (by omega)
    rw [show ((k.toNat : Nat) : Int) = k by omega] at s1
    rw [if_pos g, if_neg (by omega), if_neg (by omega), zcv_0, r1, zbs, zmG_n, zb_128_18, zgr_0_8, zbs, zgr_0_5, zbs, zgr_0_7, zbs, zcv_20, s1, zbs, zmG_v, zb_128_34]
    exact ⟨m', rfl, yFr_tr (yFq_pl r2) (yPv_fr s2), yCs_fr r3 s2 yPv_hold⟩
  · rw [if_neg g]
    by_cases g2 : k < 2
    · rw [if_pos g2]
      exact ⟨m, rfl, yFr_rfl, h⟩
    · rw [if_neg g2, if_pos (by omega)]
      exact ⟨m, rfl, yFr_rfl, h⟩
/-! the reference's -/
def yHp (m : Nat → Int → Int) (H : List Int) : Prop := ∀ i : Nat, i < H.length → m 112 i = H.getD i 0
def yPh (x : Nat) (_ : Int) : Prop := x = 112
theorem zk_270 {H S : List Int} {x : Int} (h : yHp m H) (hn : H.length ≤ 600) (hp : H.Perm (x :: S)) (hS : yAsc (x :: S)) : ∃ (m' : Nat → Int → Int) (H' : List Int), zmD zP (D + 1) 270 [zr 98, zi H.length] (zW L m) = some (some (zi x), zW L m') ∧ yFq yPh m m' ∧ yHp m' H' ∧ H'.Perm S := by
  have hl := hp.length_eq
  rw [List.length_cons] at hl
  have go : ∀ (k i j : Nat), i + k = H.length → j < i → (∀ a : Nat, a < i → H.getD j 0 ≤ H.getD a 0) → ∃ j' : Nat, j' < H.length ∧ (∀ a : Nat, a < H.length → H.getD j' 0 ≤ H.getD a 0) ∧ zmE (zmD zP D) zc_270 (4, [some (zr 98), some (zi (H.length)), some (zi j), some (zi i)], [], zW L m) = zmE (zmD zP D) zc_270 (4, [some (zr 98), some (zi (H.length)), some (zi j'), some (zi (H.length))], [], zW L m) := fun k => by
    induction k with
    | zero =>
      intro i j hi hj ha
      rw [Nat.add_zero] at hi
      exact ⟨j, by omega, fun a h2 => ha a (by omega), by rw [hi]⟩
    | succ k ih =>
      intro i j hi hj ha
      have e1 := h i (by omega)
      have e2 := h j (by omega)
      rw [zb_270_4, if_pos (by omega), zgr_98_23, zbs, zai_112 (by omega) (by omega), zbs, zbs, zai_112 (by omega) (by omega), zbs, e1, e2]
      by_cases g : H.getD i 0 < H.getD j 0
      · rw [if_pos g, zb_270_29, w32_of (by omega) (by omega)]
        exact ih (i + 1) i (by omega) (by omega) fun a h2 => by
          by_cases g2 : a = i
          · rw [g2]
            exact Int.le_refl _
          · have := ha a (by omega)
            omega
      · rw [if_neg g, zb_270_29, w32_of (by omega) (by omega)]
        exact ih (i + 1) j (by omega) (by omega) fun a h2 => by
          by_cases g2 : a = i
          · rw [g2]
            omega
          · exact ha a (by omega)
  obtain ⟨j, j1, j2, j3⟩ := go (S.length) 1 0 (by omega) (by omega) fun a h2 => by
    rw [show a = 0 by omega]
    exact Int.le_refl _
  have hmem : H.getD j 0 ∈ H := yMem_get.mpr ⟨j, j1, rfl⟩
  have ex : H.getD j 0 = x := yLeast hp hS hmem fun z hz => by
    obtain ⟨a, a1, rfl⟩ := yMem_get.mp hz
    exact j2 a a1
  have e1 := h j j1
  have e2 := h S.length (by omega)
  have pp := yTake_perm2 (H := H) (j := j) (n := S.length) (by omega) (by omega)
  rw [zen_270, zb_270_0]
  have j3' : zmE (zmD zP D) zc_270 (4, [some (zr 98), some (zi (H.length)), some (zi 0), some (zi 1)], [], zW L m) = _ := j3
  rw [j3', zb_270_4, if_neg (by omega), zgr_98_23, zbs, zai_112 (by omega) (by omega), zbs, zbs, zbs, w32_of (by omega) (by omega), show (H.length : Int) - 1 = S.length by omega, zai_112 (by omega) (by omega), zbs, zsi_112 (by omega) (by omega), zbs, e1, e2, ex]
  refine ⟨_, (H.set j (H.getD S.length 0)).take S.length, rfl, fun y k hy => zup_ne hy, fun i hi => ?_, ?_⟩
  · rw [List.length_take, List.length_set] at hi
    generalize H.getD S.length 0 = z
    rw [List.getD_eq_getElem?_getD, List.getElem?_take_of_lt (by omega), List.getElem?_set]
    by_cases g : j = i
    · rw [g, zup_self, if_pos rfl, if_pos (by omega)]
      rfl
    · rw [zup_ne2 (by omega), if_neg g, ← List.getD_eq_getElem?_getD]
      exact h i (by omega)
  · rw [ex] at pp
    exact (pp.symm.trans hp).cons_inv
end ZR
