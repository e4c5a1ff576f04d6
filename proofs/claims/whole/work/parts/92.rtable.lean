/-! the least table, of the reference -/
section ZR
variable {L : Nat} {m : Nat → Int → Int} (d : Nat) {w : Int → List Int} {b : Int → Int} {c n e : Int} {W F : Int → Int} {Z : Int → List Int}
theorem zk_268r (k : Nat) (hk : 2 ≤ k ∧ k ≤ 26) {S H : List Int} (hS : yRud k S) (hr : S.length ≤ 600) (hp : H.Perm S) (hH : yHp m H) (hl : k ≤ S.length) (acc : Int) : ∃ (m' : Nat → Int → Int) (H' : List Int), zmE (zmD zP (d+1)) zc_268 (83, [some (zr 98), some (zi k), some (zi (S.length)), some (zi acc), some (zi 0), some (zi 0)], [], zW L m) = zmE (zmD zP (d+1)) zc_268 (83, [some (zr 98), some (zi k), some (zi ((S.length : Int) - k)), some (zi acc), some (zi (yTot (S.take k))), some (zi k)], [], zW L m') ∧ yFq yPh m m' ∧ yHp m' H' ∧ H'.Perm (S.drop k) := by
  obtain ⟨h2, h3, h4, h5⟩ := hS
  have go : ∀ i : Nat, i ≤ k → ∃ (m' : Nat → Int → Int) (H' : List Int), zmE (zmD zP (d+1)) zc_268 (83, [some (zr 98), some (zi k), some (zi (S.length)), some (zi acc), some (zi 0), some (zi 0)], [], zW L m) = zmE (zmD zP (d+1)) zc_268 (83, [some (zr 98), some (zi k), some (zi ((S.length : Int) - i)), some (zi acc), some (zi (yTot (S.take i))), some (zi i)], [], zW L m') ∧ yFq yPh m m' ∧ yHp m' H' ∧ H'.Perm (S.drop i) := fun i => by
    induction i with
    | zero =>
      refine fun _ => ⟨m, H, ?_, yFq_rfl, hH, hp⟩
      rw [show (S.length : Int) - ((0 : Nat) : Int) = S.length by omega]
      rfl
    | succ i ih =>
      intro hi
      obtain ⟨M, H1, r1, r2, r3, r4⟩ := ih (by omega)
      rw [yDrop_c (by omega)] at r4
      have ha : yAsc (S.getD i 0 :: S.drop (i + 1)) := by
        rw [← yDrop_c (by omega)]
        exact yAsc_drop h2 i
      have hl1 := r4.length_eq
      rw [List.length_cons, List.length_drop] at hl1
      obtain ⟨M2, H2, s1, s2, s3, s4⟩ := zk_270 (L := L) d r3 (by omega) r4 ha
      rw [show (H1.length : Int) = (S.length : Int) - i by omega] at s1
      have t1 := yTot_tk h3 i
      have t2 := yTot_tk h3 (i + 1)
      have t3 := yTot_take (xs := S) (k := i) (by omega)
      rw [r1, zb_268_83, if_pos (by omega), zcv_98, s1, zbs, zmG_v, zb_268_96, w32_of (z := yTot (S.take i) + S.getD i 0) (by omega) (by omega), w32_of (z := (i : Int) + 1) (by omega) (by omega), w32_of (z := (S.length : Int) - i + (-1)) (by omega) (by omega), ← t3, show (S.length : Int) - i + (-1) = (S.length : Int) - ((i + 1 : Nat) : Int) by omega]
      exact ⟨M2, H2, by rw [Int.natCast_succ], yFq_tr r2 s2, s3, s4⟩
  exact go k (Nat.le_refl k)
theorem zk_268l (k : Nat) (hk : 2 ≤ k ∧ k ≤ 26) : ∀ (f : Nat) (S H : List Int) (M : Nat → Int → Int) (acc : Int) (o4 o5 : Option zmV), S.length ≤ f → yRud k S → S.length ≤ 600 → H.Perm S → yHp M H → 0 ≤ acc ∧ acc ≤ 4608 * (600 - S.length) → ∃ m', zmE (zmD zP (d+1)) zc_268 (72, [some (zr 98), some (zi k), some (zi (S.length)), some (zi acc), o4, o5], [], zW L M) = some (some (zi (acc + yHuf k f S)), zW L m') ∧ yFq yPh M m' := fun f => by
  induction f with
  | zero =>
    intro S H M acc o4 o5 hf hS hr hp hH ha
    rw [zb_268_72, if_neg (by omega), yHuf_end (by omega), Int.add_zero]
    exact ⟨M, rfl, yFq_rfl⟩
  | succ f ih =>
    intro S H M acc o4 o5 hf hS hr hp hH ha
    by_cases g : 1 < S.length
    · obtain ⟨q1, q2, q3⟩ := yRud_go hk.1 hS g
      obtain ⟨M1, H1, r1, r2, r3, r4⟩ := zk_268r (L := L) (m := M) d k hk hS hr hp hH q1 acc
      have t1 := yTot_tk hS.2.1 k
      have t2 := hS.2.2.1
      have hl1 := r4.length_eq
      rw [List.length_drop] at hl1
      rw [zb_268_72, if_pos (by omega), r1, zb_268_83, if_neg (by omega), zgr_98_23, zbs, zsi_112 (by omega) (by omega), zbs, w32_of (z := acc + yTot (S.take k)) (by omega) (by omega), w32_of (z := (S.length : Int) - k + 1) (by omega) (by omega), show (S.length : Int) - k + 1 = (yIns (yTot (S.take k)) (S.drop k)).length by omega]
      have hH2 : yHp (zup M1 112 ((S.length : Int) - k) (yTot (S.take k))) (H1 ++ [yTot (S.take k)]) := fun i hi => by
        rw [List.length_append, List.length_singleton] at hi
        by_cases g2 : i = H1.length
        · rw [show (S.length : Int) - k = (i : Int) by omega, zup_self, g2, yget_e rfl]
        · rw [zup_ne2 (by omega), r3 i (by omega), yget_l (by omega)]
      obtain ⟨m', u1, u2⟩ := ih (yIns (yTot (S.take k)) (S.drop k)) (H1 ++ [yTot (S.take k)]) _ (acc + yTot (S.take k)) (some (zi (yTot (S.take k)))) (some (zi k)) (by omega) q2 (by omega) (((r4.append_right _).trans List.perm_append_comm).trans (yIns_perm _).symm) hH2 (by omega)
      refine ⟨m', ?_, yFq_tr (yFq_tr r2 fun y j hy => zup_ne hy) u2⟩
      rw [u1, yHuf_step g, Int.add_assoc]
    · rw [zb_268_72, if_neg (by omega), yHuf_end (by omega), Int.add_zero]
      exact ⟨M, rfl, yFq_rfl⟩
theorem yPh_hold : ∀ x j, yHoldR x j → ¬ yPh x j := fun x j h q => by
  unfold yHoldR at h
  unfold yPh at q
  omega
theorem yPh_fr {m m' : Nat → Int → Int} (h : yFq yPh m m') : yFr 98 117 m m' := yFr_of h fun x j q => by
  unfold yPh at q
  omega
theorem yRm_h {m m' : Nat → Int → Int} {l : Int} {xs : List Int} (h : yRm m l xs) (hf : yFq yPh m m') : yRm m' l xs := by
  have q : ∀ x, x ≠ 112 → m' x = m x := fun x hx => by
    funext j
    exact hf x j hx
  unfold yRm
  rw [q 108 (by decide), q 107 (by decide)]
  exact h
theorem yr_268 (h : yRs m w b c n e W F Z) (k : Nat) (hk : 2 ≤ k ∧ k ≤ 26) : ∃ m', zmD zP (d + 7) 268 [zr 98, zi k] (zW L m) = some (some (zi (yTbl k ((yMv b c).map (yWm W b)))), zW L m') ∧ yFr 98 117 m m' ∧ yRs m' w b c n e W F Z := by
  have hok := yPu_ok h.2.1.1
  obtain ⟨M0, r1, r2, r3, r4⟩ := yr_now (L := L) d h
  have hle := r4.2.1
  obtain ⟨xs, exs⟩ : ∃ xs, xs = yMv b c := ⟨_, rfl⟩
  rw [← exs] at hok r4 hle ⊢
  have hws := yWs_in hok fun i i1 i2 => (r3.2.2.2.1 i i1 i2).2
  have hwl : (xs.map (yWm W b)).length = xs.length := List.length_map _
  have hwg : ∀ i : Nat, i < xs.length → (xs.map (yWm W b)).getD i 0 = yWm W b (xs.getD i 0) := fun i hi => yWs_get hi
  obtain ⟨ws, ews⟩ : ∃ ws, ws = xs.map (yWm W b) := ⟨_, rfl⟩
  rw [← ews] at hws hwl hwg ⊢
  rw [zen_268, zb_268_0, zcv_98, r1, zbs, zmG_n, zb_268_5, zgr_98_12, zbs, zai_108 (by decide) (by decide), zbs, r4.1]
  have fin : ∀ M1 : Nat → Int → Int, yFq yPh M0 M1 → (∃ m', zmE (zmD zP (d+6)) zc_268 (42, [some (zr 98), some (zi k), some (zi (xs.length)), some (zi (xs.length)), none, none], [], zW L M1) = some (some (zi (yTbl k ws)), zW L m') ∧ yFq yPh M0 m') → ∃ m', zmE (zmD zP (d+6)) zc_268 (42, [some (zr 98), some (zi k), some (zi (xs.length)), some (zi (xs.length)), none, none], [], zW L M1) = some (some (zi (yTbl k ws)), zW L m') ∧ yFr 98 117 m m' ∧ yRs m' w b c n e W F Z := fun M1 _ ⟨m', u1, u2⟩ => ⟨m', u1, yFr_tr (yPm_fr r2) (yPh_fr u2), yRs_fr r3 u2 yPh_hold⟩
  suffices fill : ∀ k2 i : Nat, i + k2 = xs.length → ∀ M1 : Nat → Int → Int, yFq yPh M0 M1 → yHp M1 (ws.take i) → ∃ m', zmE (zmD zP (d+6)) zc_268 (14, [some (zr 98), some (zi k), some (zi (xs.length)), some (zi i), none, none], [], zW L M1) = some (some (zi (yTbl k ws)), zW L m') ∧ yFr 98 117 m m' ∧ yRs m' w b c n e W F Z from fill xs.length 0 (by omega) M0 yFq_rfl fun i hi => absurd hi (Nat.not_lt_zero i)
  intro k2
  induction k2 with
  | succ k2 ih =>
    intro i hi M1 f1 f2
    have f3 := yRm_h r4 f1
    have f4 := yRs_fr r3 f1 yPh_hold
    obtain ⟨o1, o2, o3⟩ := yOkv_get hok (i := i) (by omega)
    have hg : M1 107 i = xs.getD i 0 := yRm_at f3 (by omega)
    rw [zb_268_14, if_pos (by omega), zgr_98_23, zbs, zgr_98_11, zbs, zai_107 (by omega) (by omega), zbs, hg, zcv_98, zk_269 (d + 5) 0 _ (by decide) o1 f4.2.1.2.1 ⟨o2, o3⟩ (f4.2.1.1.1 _ (by omega) (by omega)) (yRs_W f4), zbs, zmG_v, zb_268_35, zsi_112 (by omega) (by omega), zbs, w32_of (by omega) (by omega)]
    refine ih (i + 1) (by omega) _ (yFq_tr f1 fun y j hy => zup_ne hy) fun j hj => ?_
    rw [List.length_take] at hj
    have e0 : (ws.take (i + 1)).getD j 0 = ws.getD j 0 := by
      rw [List.getD_eq_getElem?_getD, List.getD_eq_getElem?_getD, List.getElem?_take_of_lt (by omega)]
    by_cases g : j = i
    · rw [e0, g, zup_self, hwg i (by omega)]
    · have := f2 j (by rw [List.length_take]; omega)
      rw [e0, zup_ne2 (by omega), this, List.getD_eq_getElem?_getD, List.getD_eq_getElem?_getD, List.getElem?_take_of_lt (by omega)]
  | zero =>
    intro i hi M1 f1 f2
    rw [show i = xs.length by omega]
    rw [show i = ws.length by omega, List.take_length] at f2
    rw [zb_268_14, if_neg (by omega)]
    refine fin M1 f1 ?_
    by_cases g : xs.length < 2
    · unfold yTbl
      rw [zb_268_42, if_neg (by omega), zb_268_70, zb_268_72, if_neg (by omega), if_pos (by omega)]
      exact ⟨M1, rfl, f1⟩
    · obtain ⟨e1, e2, e3⟩ := yEmp_ok (n := xs.length) (k := k) (by omega) (by omega) (by omega)
      obtain ⟨E, eE⟩ : ∃ E : Nat, yEmp xs.length k = E := ⟨(yEmp xs.length k).toNat, by omega⟩
      obtain ⟨q1, q2⟩ := yRud_0 (ws := ws) hk (by omega) hws
      rw [hwl, eE, Int.toNat_natCast] at q1 q2
      have e4 : yTbl k ws = yHuf k (xs.length + E) (ySrt (List.replicate E 0 ++ ws)) := by
        unfold yTbl
        rw [if_neg (by omega), hwl, eE, Int.toNat_natCast, Int.toNat_natCast]
      rw [eE] at e1 e2 e3
      suffices pad : ∀ k3 j : Nat, j + k3 = E → ∀ M2 : Nat → Int → Int, yFq yPh M0 M2 → yHp M2 (ws ++ List.replicate j 0) → ∃ m', zmE (zmD zP (d+6)) zc_268 (42, [some (zr 98), some (zi k), some (zi (((xs.length + j : Nat) : Int))), some (zi (xs.length)), none, none], [], zW L M2) = some (some (zi (yTbl k ws)), zW L m') ∧ yFq yPh M0 m' from pad E 0 (by omega) M1 f1 (by rw [List.replicate_zero, List.append_nil]; exact f2)
      intro k3
      induction k3 with
      | succ k3 ih3 =>
        intro j hj M2 g1 g2
        have ne := e3 j (by omega) (by omega)
        rw [zb_268_42, if_pos (by omega), w32_of (z := (k : Int) - 1) (by omega) (by omega), if_neg (by omega), w32_of (z := ((xs.length + j : Nat) : Int) - 1) (by omega) (by omega), z_rem_of (by omega) (by omega) (by omega) (by omega), show ((xs.length + j : Nat) : Int) - 1 = (xs.length : Int) + j - 1 by omega, if_neg ne, zgr_98_23, zbs, zsi_112 (by omega) (by omega), zbs, w32_of (by omega) (by omega)]
        refine ih3 (j + 1) (by omega) _ (yFq_tr g1 fun y j hy => zup_ne hy) fun a ha => ?_
        rw [List.length_append, List.length_replicate] at ha
        rw [List.replicate_succ', ← List.append_assoc]
        by_cases g3 : a = xs.length + j
        · rw [g3, zup_self, yget_e (by rw [List.length_append, List.length_replicate]; omega)]
        · rw [zup_ne2 (by omega), g2 a (by rw [List.length_append, List.length_replicate]; omega)]
          exact (yget_l (by rw [List.length_append, List.length_replicate]; omega)).symm
      | zero =>
        intro j hj M2 g1 g2
        rw [show j = E by omega] at g2 ⊢
        obtain ⟨m', u1, u2⟩ := zk_268l (L := L) (d + 5) k hk (xs.length + E) (ySrt (List.replicate E 0 ++ ws)) _ M2 0 none none (by omega) q1 (by omega) (List.perm_append_comm.trans (ySrt_perm _).symm) g2 (by omega)
        rw [q2, Int.zero_add, ← e4] at u1
        rw [zb_268_42, if_pos (by omega), w32_of (z := (k : Int) - 1) (by omega) (by omega), if_neg (by omega), w32_of (z := ((xs.length + E : Nat) : Int) - 1) (by omega) (by omega), z_rem_of (by omega) (by omega) (by omega) (by omega), show ((xs.length + E : Nat) : Int) - 1 = (xs.length : Int) + E - 1 by omega, if_pos e2, zb_268_70]
        exact ⟨m', u1, yFq_tr g1 u2⟩
theorem yr_267 (h : yRs m w b c n e W F Z) (k : Int) : ∃ m', zmD zP (d + 8) 267 [zr 98, zi k] (zW L m) = some (some (zi (if 2 ≤ k ∧ k ≤ 26 then yTbl k ((yMv b c).map (yWm W b)) else -2)), zW L m') ∧ yFr 98 117 m m' ∧ yRs m' w b c n e W F Z := by
  rw [zen_267, zb_267_0, zk_201, zbs, zmG_v, zb_267_11]
  by_cases g : 2 ≤ k ∧ k ≤ 26
  · obtain ⟨m', r1, r2, r3⟩ := yr_268 (L := L) d h k.toNat (by omega)
    rw [show ((k.toNat : Nat) : Int) = k by omega] at r1
    rw [if_neg (fun q => zB_z.mp q g), if_pos g, zcv_98, r1, zbs, zmG_v, zb_267_19]
    exact ⟨m', rfl, r2, r3⟩
  · rw [if_pos (zB_z.mpr g), if_neg g]
    exact ⟨m, rfl, yFr_rfl, h⟩
end ZR
