/-! disputes of the class: explore -/
def yPx (N k : Nat) (x : Nat) (j : Int) : Prop := x = 64 ∧ (j = 7 ∨ j = 8) ∨ x = 85 ∧ (k : Int) ≤ j ∧ j < N ∨ 86 ≤ x ∧ x ≤ 88 ∨ 68 + 2 * k ≤ x ∧ x ≤ 71 ∨ 73 + 4 * k ≤ x ∧ x ≤ 84
theorem yPx_s {N k : Nat} {m m' : Nat → Int → Int} (h : yFq (yPx N (k + 1)) m m') : yFq (yPx N k) m m' := fun x j hx => h x j fun q => hx (by
  unfold yPx at q ⊢
  omega)
/-- what explore leaves -/
def yPo2 (ps : List (List Int)) (b : Int → Int) (c : Int) (pre : List Int) (o : Option (List Int)) (S : Nat → Int → Prop) (k : Nat) (m' : Nat → Int → Int) (x : Int) : Prop := (yMany ps b c → m' 64 8 = 1 ∧ ∃ S', yDq m' S') ∧ (¬ yMany ps b c → m' 64 8 = 0 ∧ x = (yRdg ps b c).length ∧ yKp m' (yFo pre o (yRdg ps b c)) ∧ yDq m' (fun k' v => S k' v ∨ yMks k (yRdg ps b c) k' v))
/-- the path as far as part k -/
def yPth (m : Nat → Int → Int) (pre : List Int) (k N : Nat) : Prop := pre.length = k ∧ (∀ j : Nat, j < k → m 85 j = pre.getD j (-1)) ∧ ∀ j : Nat, N ≤ j → j < 3 → m 85 j = -1
theorem ygdn {pre : List Int} {j : Nat} (h : pre.length ≤ j) : pre.getD j (-1) = -1 := by
  rw [List.getD_eq_getElem?_getD, List.getElem?_eq_none h]
  rfl
theorem ygdl {xs ys : List Int} {i : Nat} (h : i < xs.length) : (xs ++ ys).getD i (-1) = xs.getD i (-1) := by
  rw [List.getD_eq_getElem?_getD, List.getD_eq_getElem?_getD, List.getElem?_append_left h]
theorem ygde {xs : List Int} {v : Int} : (xs ++ [v]).getD xs.length (-1) = v := by
  rw [List.getD_eq_getElem?_getD, List.getElem?_append_right (Nat.le_refl _), Nat.sub_self]
  rfl
theorem yp40 {n : Nat} (h : n ≤ 2) : 40 ^ n ≤ 1600 := by
  have : n = 0 ∨ n = 1 ∨ n = 2 := by omega
  rcases this with rfl | rfl | rfl <;> decide
section ZR
variable {L : Nat} {m : Nat → Int → Int} (D : Nat)
theorem zk_168 {P : List (List Int)} (hN : P.length ≤ 3) : ∀ (ps : List (List Int)) (k : Nat) (M : Nat → Int → Int) (pre : List Int) (o : Option (List Int)) (S : Nat → Int → Prop) (b : Int → Int) (c : Int), P.drop k = ps → k ≤ P.length → yGm M P → M 64 8 = 0 → (k < P.length → yOn M (66 + 2 * k) (67 + 2 * k) b c) → yPth M pre k P.length → yKp M o → yDq M S → ∃ (m' : Nat → Int → Int) (x : Int), zmD zP (D + 6 + ps.length) 168 [zr 64, zr 42, zi k] (zW L M) = some (some (zi x), zW L m') ∧ yFq (yPx P.length k) M m' ∧ yPo2 ps b c pre o S k m' x
  | [], k, M, pre, o, S, b, c, hd, hk, hg, h8, hon, hp, hkp, hdq => by
    have hkl : k = P.length := by
      have := congrArg List.length hd
      rw [List.length_drop, List.length_nil] at this
      omega
    obtain ⟨p1, p2, p3⟩ := hp
    obtain ⟨m', r1, r2, r3⟩ := zk_169 (L := L) (D + 4) hkp (s := pre) fun j hj => by
      by_cases g : j < k
      · exact p2 j g
      · rw [p3 j (by omega) hj, ygdn (by omega)]
    refine ⟨m', 1, ?_, fun x j hx => r2 x j fun q => hx (by unfold yPx; omega), fun q => absurd q id, fun _ => ⟨?_, rfl, r3, ?_⟩⟩
    · rw [List.length_nil, Nat.add_zero, zen_168, zb_168_0, zcv_42, zen_166, zb_166_0, zgi_42, zbs, zbs, zmG_v, zb_168_5, hg.1, if_neg (by omega), zb_168_13, zcv_64, r1, zbs, zmG_n, zb_168_17]
    · rw [r2 64 8 (by omega), h8]
    · refine yDq_c (yDq_fr hdq (funext fun j => r2 87 j (by omega)) (funext fun j => r2 88 j (by omega))) fun k' v => ⟨.inl, fun q => ?_⟩
      rcases q with q | ⟨s, s1, s2, s3, -⟩
      · exact q
      · rw [List.mem_singleton.mp s1, List.length_nil] at s3
        omega
  | p :: ps, k, M, pre, o, S, b, c, hd, hk, hg, h8, hon, hp, hkp, hdq => by
    have hkl : k + (ps.length + 1) = P.length := by
      have := congrArg List.length hd
      rw [List.length_drop, List.length_cons] at this
      omega
    have hk3 : k < 3 := by omega
    have hpk : P.getD k [] = p := by
      have : P.drop k = P.getD k [] :: P.drop (k + 1) := by
        rw [List.drop_eq_getElem_cons (by omega), List.getD_eq_getElem?_getD, List.getElem?_eq_getElem (by omega)]
        rfl
      rw [this] at hd
      exact (List.cons.inj hd).1
    have hdk : P.drop (k + 1) = ps := by
      rw [← List.drop_drop, hd]
      rfl
    have on := hon (by omega)
    have hq := yLs_7 (L := L) (k := k) hk3
    obtain ⟨M1, r1, r2, r3, r4⟩ := zk_156g (L := L) (D + 1 + ps.length) (yBd_6 (L := L) hk3) hq (.inl (by omega)) (.inl (by omega)) (by omega) hg (i := k) (by omega) on
    rw [hpk] at r3 r4
    rw [show D + 1 + ps.length + 5 = D + 6 + ps.length by omega] at r1
    have F1 : yFq (yPx P.length k) M M1 := yFq_fr r2 fun x j x1 x2 => by unfold yPx; omega
    have k1 : ∀ x, x < 73 + 4 * k ∨ 73 + 4 * k + 3 < x → M1 x = M x := fun x hx => r2 x hx
    have hsz : ∀ (M2 : Nat → Int → Int) (d' : Nat), M2 (73 + 4 * k) 3 = M1 (73 + 4 * k) 3 → zmD zP (d' + 1) 90 [zr (73 + 4 * k)] (zW L M2) = some (some (zi ((yFl b c p).take 41).length), zW L M2) := fun M2 d' e => by
      rw [zk_90 d' hq, e, r3]
    rw [List.length_cons, show D + 6 + (ps.length + 1) = D + 6 + ps.length + 1 by omega, zen_168, zb_168_0, zcv_42, show D + 6 + ps.length = D + 5 + ps.length + 1 by omega, zen_166, zb_166_0, zgi_42, zbs, zbs, zmG_v, zb_168_5, hg.1, if_pos (by omega), if_pos (by omega), zgr_64_1, zbs, zar_72 hk3, zbs, zgr_64_0, zbs, zar_65 hk3, zbs, zcv_42, show D + 5 + ps.length + 1 = D + 6 + ps.length by omega, r1, zbs, zmG_n, zb_168_38, ylc hq, show D + 6 + ps.length = D + 5 + ps.length + 1 by omega, hsz M1 _ rfl, zbs, zmG_v, zb_168_42]
    by_cases g : 40 < (yFl b c p).length
    · rw [if_pos (by rw [List.length_take]; omega), zpz_64 (.inr rfl), zbs]
      have kx : ∀ x, x ≠ 64 → zup M1 64 8 1 x = M1 x := fun x hx => by
        funext j
        exact zup_ne hx
      refine ⟨_, 0, rfl, yFq_up F1 (by unfold yPx; omega), fun _ => ⟨zup_self, S, yDq_fr hdq ?_ ?_⟩, fun q => absurd (.inl g) q⟩
      · rw [kx 87 (by decide), k1 87 (by omega)]
      · rw [kx 88 (by decide), k1 88 (by omega)]
    · have htk : (yFl b c p).take 41 = yFl b c p := List.take_of_length_le (by omega)
      rw [htk] at r3 r4 hsz
      rw [if_neg (by rw [htk]; omega)]
      obtain ⟨fl, efl⟩ : ∃ fl, fl = yFl b c p := ⟨_, rfl⟩
      rw [← efl] at r3 r4 g hsz
      have hmv : ∀ v ∈ fl, v ∈ yMv b c := fun v hv => (List.mem_filter.mp (by rw [efl] at hv; exact hv)).1
      have h1600 := yp40 (n := ps.length) (by omega)
      suffices go : ∀ (j i : Nat) (M' : Nat → Int → Int) (o6 : Option zmV), i + j = fl.length → yFq (yPx P.length k) M M' → M' 64 8 = 0 → M' (73 + 4 * k) = M1 (73 + 4 * k) → M' (73 + 4 * k + 1) = M1 (73 + 4 * k + 1) → yPth M' pre k P.length → yKp M' (yFo pre o (yRdi fl ps b c i)) → yDq M' (fun k' v => S k' v ∨ yMks k (yRdi fl ps b c i) k' v) → (∀ a : Nat, a < i → ¬ yMany ps (yBv b (fl.getD a 0)) (8 - c)) → ∃ (m' : Nat → Int → Int) (x : Int), zmE (zmD zP (D+5+ps.length+1)) zc_168 (60, [some (zr 64), some (zr 42), some (zi k), some (zr ((73 + 4 * k))), some (zi ((yRdi fl ps b c i).length)), some (zi i), o6], [], zW L M') = some (some (zi x), zW L m') ∧ yFq (yPx P.length k) M m' ∧ yPo2 (p :: ps) b c pre o S k m' x from go fl.length 0 M1 none (by omega) F1 (by rw [k1 64 (by omega)]; exact h8) rfl rfl ⟨hp.1, fun j hj => by rw [k1 85 (by omega)]; exact hp.2.1 j hj, fun j h1 h2 => by rw [k1 85 (by omega)]; exact hp.2.2 j h1 h2⟩ (by rw [yRdi_0, yFo_nil]; exact yKp_fr hkp (by rw [k1 64 (by omega)]) (k1 86 (by omega))) (yDq_c (yDq_fr hdq (k1 87 (by omega)) (k1 88 (by omega))) fun k' v => ⟨.inl, fun q => q.elim id fun q => absurd q yMks_nil⟩) fun a ha => absurd ha (Nat.not_lt_zero a)
      intro j
      induction j with
      | zero =>
        intro i M' o6 hi f1 f2 f3 f3b f4 f5 f6 f7
        rw [show i = fl.length by omega] at f5 f6 f7 ⊢
        have ea : yRdi fl ps b c fl.length = yRdg (p :: ps) b c := by
          rw [efl]
          exact yRdi_all
        rw [ea] at f5 f6 ⊢
        rw [zb_168_60, ylc hq, hsz M' _ (by rw [f3]), zbs, zmG_v, zb_168_66, if_neg (by omega)]
        refine ⟨M', _, rfl, f1, fun q => ?_, fun _ => ⟨f2, rfl, f5, f6⟩⟩
        rcases q with q | ⟨v, hv, q⟩
        · rw [← efl] at q
          exact absurd q g
        · rw [← efl] at hv
          obtain ⟨a, a1, a2⟩ := yMem_get.mp hv
          rw [← a2] at q
          exact absurd q (f7 a a1)
      | succ j ih =>
        intro i M' o6 hi f1 f2 f3 f3b f4 f5 f6 f7
        have hv : fl.getD i 0 ∈ fl := yMem_get.mpr ⟨i, by omega, rfl⟩
        have hv2 := hmv _ hv
        obtain ⟨⟨v1, v2⟩, -⟩ := yMv_go hv2
        have hg' : yGm M' P := yGm_fr (lo := 64) (hi := 88) hg (fun x hx => funext fun j => f1 x j (by unfold yPx; omega)) (by decide)
        have on' : yOn M' (66 + 2 * k) (67 + 2 * k) b c := yOn_c on (funext fun j => f1 _ j (by unfold yPx; omega)) (funext fun j => f1 _ j (by unfold yPx; omega)) fun x hx => funext fun j => f1 x j (by unfold yPx; omega)
        have hcd : ∀ (M2 : Nat → Int → Int) (d' : Nat), M2 (73 + 4 * k) 3 = M' (73 + 4 * k) 3 → M2 (73 + 4 * k + 1) i = M' (73 + 4 * k + 1) i → zmD zP (d' + 1) 97 [zr (73 + 4 * k), zi i] (zW L M2) = some (some (zi (fl.getD i 0)), zW L M2) := fun M2 d' q1 q2 => by
          have hn : M2 (73 + 4 * k) 3 = fl.length := by rw [q1, f3, r3]
          rw [zk_97 d' hq (by rw [hn]; omega), if_pos (by rw [hn]; omega), q2, f3b, r4 i (by omega)]
        generalize ev : fl.getD i 0 = v at *
        obtain ⟨M2, s1, s2, s3, s4⟩ := zk_170 (L := L) (m := M') (D + 3 + ps.length) hk3 on' hv2
        rw [show D + 3 + ps.length + 3 = D + 5 + ps.length + 1 by omega] at s1
        have F2 : yFq (yPx P.length k) M M2 := yFq_tr f1 fun x j hx => s2 x j fun q => hx (by unfold yPx; omega)
        have e2 : ∀ x, x ≠ 85 → ¬ (68 + 2 * k ≤ x ∧ x ≤ 71) → M2 x = M' x := fun x x1 x2 => funext fun j => s2 x j (by omega)
        have pth2 : yPth M2 (pre ++ [v]) (k + 1) P.length := by
          obtain ⟨p1, p2, p3⟩ := f4
          refine ⟨by rw [List.length_append, List.length_singleton, p1], fun j hj => ?_, fun j h1 h2 => ?_⟩
          · by_cases g2 : j = k
            · rw [g2, s3]
              have := ygde (xs := pre) (v := v)
              rw [p1] at this
              exact this.symm
            · rw [s2 85 j (by omega), p2 j (by omega), ygdl (by omega)]
          · rw [s2 85 j (by omega), p3 j h1 h2]
        obtain ⟨M3, x3, t1, t2, t3, t4⟩ := zk_168 hN ps (k + 1) M2 (pre ++ [v]) (yFo pre o (yRdi fl ps b c i)) (fun k' v => S k' v ∨ yMks k (yRdi fl ps b c i) k' v) (yBv b v) (8 - c) hdk (by omega) (yGm_fr (lo := 64) (hi := 88) hg (fun x hx => funext fun j => F2 x j (by unfold yPx; omega)) (by decide)) (by rw [e2 64 (by omega) (by omega)]; exact f2) (fun q => s4 (by omega)) pth2 (yKp_fr f5 (by rw [e2 64 (by omega) (by omega)]) (e2 86 (by omega) (by omega))) (yDq_fr f6 (e2 87 (by omega) (by omega)) (e2 88 (by omega) (by omega)))
        have F3 := yFq_tr F2 (yPx_s t2)
        have e3 : ∀ x, x = 73 + 4 * k ∨ x = 73 + 4 * k + 1 → M3 x = M' x := fun x hx => by
          rw [← e2 x (by omega) (by omega)]
          exact funext fun j => t2 x j (by unfold yPx; omega)
        rw [zb_168_60, ylc hq, hsz M' _ (by rw [f3]), zbs, zmG_v, zb_168_66, if_pos (by omega), zgi_64, zbs, f2, if_pos rfl, ylc hq, hcd M' _ rfl rfl, zbs, zmG_v, zb_168_84, zcv_64, s1, zbs, zmG_n, zb_168_87, w32_of (z := (k : Int) + 1) (by omega) (by omega)]
        have t1' : zmD zP (D + 5 + ps.length + 1) 168 [zr 64, zr 42, zi ((k : Int) + 1)] (zW L M2) = some (some (zi x3), zW L M3) := by
          rw [show D + 5 + ps.length + 1 = D + 6 + ps.length by omega]
          exact t1
        rw [t1', zbs, zmG_v, zb_168_95]
        -- back with the marks
        have back : ∀ (M4 : Nat → Int → Int), yFq (fun x _ => x = 87 ∨ x = 88) M3 M4 → ((0 < x3 ∧ (yMany ps (yBv b v) (8 - c) ∨ yDq M4 (fun k' u => (S k' u ∨ yMks k (yRdi fl ps b c (i + 1)) k' u)))) ∨ (¬ 0 < x3 ∧ (yMany ps (yBv b v) (8 - c) ∨ yDq M4 (fun k' u => (S k' u ∨ yMks k (yRdi fl ps b c (i + 1)) k' u))))) → (∃ S', yDq M4 S') → ∃ (m' : Nat → Int → Int) (x : Int), zmE (zmD zP (D+5+ps.length+1)) zc_168 (113, [some (zr 64), some (zr 42), some (zi k), some (zr ((73 + 4 * k))), some (zi ((yRdi fl ps b c i).length)), some (zi i), some (zi x3)], [], zW L M4) = some (some (zi x), zW L m') ∧ yFq (yPx P.length k) M m' ∧ yPo2 (p :: ps) b c pre o S k m' x := fun M4 u1 u2 u3 => by
          have F4 : yFq (yPx P.length k) M M4 := yFq_tr F3 fun x j hx => u1 x j fun q => hx (by unfold yPx; omega)
          have e4 : ∀ x, x ≠ 87 → x ≠ 88 → M4 x = M3 x := fun x x1 x2 => funext fun j => u1 x j (by omega)
          rw [zb_168_113, w32_of (z := (i : Int) + 1) (by omega) (by omega)]
          by_cases gm : yMany ps (yBv b v) (8 - c)
          · obtain ⟨q1, -⟩ := t3 gm
            have h48 : M4 64 8 = 1 := by rw [e4 64 (by omega) (by omega), q1]
            have hm : yMany (p :: ps) b c := .inr ⟨v, by rw [← efl, ← ev]; exact yMem_get.mpr ⟨i, by omega, rfl⟩, gm⟩
            rw [zb_168_60, ylc hq, hsz M4 _ (by rw [e4 _ (by omega) (by omega), e3 _ (.inl rfl), f3]), zbs, zmG_v, zb_168_66, zgi_64, zbs, h48, if_neg (c := (1 : Int) = 0) (by decide)]
            refine ⟨M4, w32 ((yRdi fl ps b c i).length + x3), ?_, F4, fun _ => ⟨h48, u3⟩, fun q => absurd hm q⟩
            split <;> rfl
          · obtain ⟨q1, q2, q3, q4⟩ := t4 gm
            have hR := yRdg_len ps _ _ gm
            have hI := yRdi_len (fl := fl) (ps := ps) (b := b) (c := c) (B := 1600) i (by omega) fun a ha => Nat.le_trans (yRdg_len ps _ _ (f7 a ha)) h1600
            have es := yRdi_s (ps := ps) (b := b) (c := c) (show i < fl.length by omega)
            rw [ev] at es
            have el : ((yRdi fl ps b c i).length : Int) + x3 = (yRdi fl ps b c (i + 1)).length := by
              rw [es, List.length_append, List.length_map, q2]
              omega
            have hdq4 : yDq M4 (fun k' u => (S k' u ∨ yMks k (yRdi fl ps b c (i + 1)) k' u)) := by
              rcases u2 with ⟨-, u⟩ | ⟨-, u⟩
              · exact u.resolve_left gm
              · exact u.resolve_left gm
            rw [el, w32_of (by omega) (by omega)]
            refine ih (i + 1) M4 _ (by omega) F4 (by rw [e4 64 (by omega) (by omega), q1]) (by rw [e4 _ (by omega) (by omega), e3 _ (.inl rfl), f3]) (by rw [e4 _ (by omega) (by omega), e3 _ (.inr rfl), f3b]) ⟨f4.1, fun j hj => ?_, fun j h1 h2 => ?_⟩ ?_ hdq4 fun a ha => ?_
            · rw [e4 85 (by omega) (by omega), t2 85 j (by unfold yPx; omega), s2 85 j (by omega)]
              exact f4.2.1 j hj
            · rw [e4 85 (by omega) (by omega), t2 85 j (by unfold yPx; omega)]
              exact pth2.2.2 j h1 h2
            · refine yKp_fr (m := M3) ?_ (by rw [e4 64 (by omega) (by omega)]) (e4 86 (by omega) (by omega))
              rw [es, ← yFo_app, ← yFo_cons]
              exact q3
            · by_cases g2 : a = i
              · rw [g2, ev]
                exact gm
              · exact f7 a (by omega)
        by_cases g3 : 0 < x3
        · have hM3 : ∃ S', yDq M3 S' := by
            by_cases gm : yMany ps (yBv b v) (8 - c)
            · exact (t3 gm).2
            · exact ⟨_, (t4 gm).2.2.2⟩
          rw [if_pos g3, ylc hq, hcd M3 _ (by rw [e3 _ (.inl rfl)]) (by rw [e3 _ (.inr rfl)]), zbs, zmG_v, zb_168_110, zcv_64]
          by_cases gm : yMany ps (yBv b v) (8 - c)
          · obtain ⟨S', hS'⟩ := hM3
            obtain ⟨M4, u1, u2, u3⟩ := zk_171 (L := L) (D + 5 + ps.length) hS' k hk3 v ⟨v1, v2⟩
            rw [u1, zbs, zmG_n]
            exact back M4 u2 (.inl ⟨g3, .inl gm⟩) ⟨_, u3⟩
          · obtain ⟨q1, q2, q3, q4⟩ := t4 gm
            obtain ⟨M4, u1, u2, u3⟩ := zk_171 (L := L) (D + 5 + ps.length) q4 k hk3 v ⟨v1, v2⟩
            have es := yRdi_s (ps := ps) (b := b) (c := c) (show i < fl.length by omega)
            rw [ev] at es
            have hne : yRdg ps (yBv b v) (8 - c) ≠ [] := fun q => by
              rw [q] at q2
              have : x3 = 0 := q2
              omega
            have u4 : yDq M4 (fun k' u => (S k' u ∨ yMks k (yRdi fl ps b c (i + 1)) k' u)) := yDq_c u3 fun k' u => by
              rw [es, yMks_app, yMks_cons]
              unfold yAdd
              constructor
              · rintro (((q | q) | q) | q)
                · exact .inl q
                · exact .inr (.inl q)
                · exact .inr (.inr (.inr q))
                · exact .inr (.inr (.inl ⟨hne, q⟩))
              · rintro (q | q | q | q)
                · exact .inl (.inl (.inl q))
                · exact .inl (.inl (.inr q))
                · exact .inr q.2
                · exact .inl (.inr q)
            rw [u1, zbs, zmG_n]
            exact back M4 u2 (.inl ⟨g3, .inr u4⟩) ⟨_, u4⟩
        · rw [if_neg g3]
          by_cases gm : yMany ps (yBv b v) (8 - c)
          · exact back M3 yFq_rfl (.inr ⟨g3, .inl gm⟩) (t3 gm).2
          · obtain ⟨q1, q2, q3, q4⟩ := t4 gm
            have es := yRdi_s (ps := ps) (b := b) (c := c) (show i < fl.length by omega)
            rw [ev] at es
            have hnil : yRdg ps (yBv b v) (8 - c) = [] := List.length_eq_zero_iff.mp (by omega)
            have u4 : yDq M3 (fun k' u => (S k' u ∨ yMks k (yRdi fl ps b c (i + 1)) k' u)) := yDq_c q4 fun k' u => by
              rw [es, yMks_app, hnil]
              constructor
              · rintro ((q | q) | q)
                · exact .inl q
                · exact .inr (.inl q)
                · exact absurd q yMks_nil
              · rintro (q | q | q)
                · exact .inl (.inl q)
                · exact .inl (.inr q)
                · exact absurd q yMks_nil
            exact back M3 yFq_rfl (.inr ⟨g3, .inr u4⟩) ⟨_, u4⟩
end ZR
