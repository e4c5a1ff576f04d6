/-! disputes of the reference: the tree of readings -/
theorem yokd {s : List Int} (h : ∀ x ∈ s, 0 ≤ x ∧ x < 4096) (k : Nat) : s.getD k (-1) = -1 ∨ 0 ≤ s.getD k (-1) ∧ s.getD k (-1) < 4096 := by
  by_cases g : k < s.length
  · right
    rw [List.getD_eq_getElem?_getD, List.getElem?_eq_getElem g]
    exact h _ (List.getElem_mem g)
  · exact .inl (ygdn (by omega))
theorem yMany_one {p : List Int} {b : Int → Int} {c : Int} : yMany [p] b c ↔ 40 < (yFl b c p).length := by
  constructor
  · rintro (q | ⟨v, hv, q⟩)
    · exact q
    · exact absurd q id
  · exact .inl
theorem yDrop_n {P : List (List Int)} {k : Nat} (h : k < P.length) : P.drop k = P.getD k [] :: P.drop (k + 1) := by
  rw [List.drop_eq_getElem_cons h, List.getD_eq_getElem?_getD, List.getElem?_eq_getElem h]
  rfl
section ZR
variable {L : Nat} {m : Nat → Int → Int} (d : Nat) {w : List Int} {b : Int → Int} {c : Int}
theorem yRl_z {l l' : Int} {m m' : Nat → Int → Int} (h : yRl m l b c) (hf : yFq (yPz l') m m') (hl : l < l') : yRl m' l b c := yRl_fr h hf (fun j _ _ q => by unfold yPz at q; omega) (fun q => by unfold yPz at q; omega)
theorem yRm_z {l l' : Int} {xs : List Int} {m m' : Nat → Int → Int} (h : yRm m l xs) (hf : yFq (yPz l') m m') (hl : l < l') : yRm m' l xs := yRm_fq h hf (fun j _ _ q => by unfold yPz at q; omega) (fun q => by unfold yPz at q; omega)
theorem yPz_7 {l : Int} {m m' : Nat → Int → Int} (hf : yFq (fun x j => x = 98 ∧ j = 34 ∨ x = 116 ∨ x = 117) m m') : yFq (yPz l) m m' := yFq_wd hf fun x j q => by unfold yPz; omega
theorem yPz_5 {l : Int} {m m' : Nat → Int → Int} (hf : yFq (fun x j => x = 107 ∧ 512 * l ≤ j ∧ j < 512 * l + 512 ∨ x = 108 ∧ j = l ∨ x = 98 ∧ (13 ≤ j ∧ j ≤ 17 ∨ j = 37)) m m') : yFq (yPz l) m m' := yFq_wd hf fun x j q => by unfold yPz; omega
theorem yPz_lv {l : Int} {m m' : Nat → Int → Int} (hf : yFq (fun x j => x = 105 ∧ 64 * l ≤ j ∨ x = 106 ∧ l ≤ j) m m') : yFq (yPz l) m m' := yFq_wd hf fun x j q => by unfold yPz; omega
/-- a move made on the next level: only boards change -/
theorem yr_274b {l : Int} (hl : 0 ≤ l ∧ l < 3) (h : yRl m l b c) {v : Int} (hv : v ∈ yMv b c) : ∃ m', zmD zP (d + 3) 274 [zr 98, zi l, zi v] (zW L m) = some (none, zW L m') ∧ yFq (fun x j => x = 105 ∧ 64 * (l + 1) ≤ j ∨ x = 106 ∧ l + 1 ≤ j) m m' ∧ yRl m' (l + 1) (yBv b v) (8 - c) := by
  obtain ⟨⟨v1, v2⟩, v3⟩ := yMv_go hv
  obtain ⟨m', r1, r2, r3⟩ := yr_274 (L := L) d hl h hv
  obtain ⟨hp, hb, hc⟩ := h
  have e := zk_274 (L := L) (m := m) d l v hl ⟨v1, v2⟩ (yPu_cg (yAg_sym hb) hp).1 (by rw [hc]; exact hp.2.2.2)
  have ew : zW L m' = zW L (yMkM m l v) := by
    rw [e] at r1
    have := Option.some.inj r1
    exact (congrArg Prod.snd this).symm
  refine ⟨yMkM m l v, e, ?_, ?_⟩
  · unfold yMkM yApM yPutM yCpM
    refine yFq_up (yFq_up (yFq_up (yFq_up (fun x j hx => ?_) (by omega)) (by omega)) (by omega)) (by omega)
    unfold yCpN
    exact if_neg fun q => hx (by omega)
  · have hcm : yCpM m l 106 (l + 1) = m 106 l := zup_self
    have hbd : yAg (zbd (yCpM m l) (l + 1)) b := fun s s1 s2 => (zbd_cpM ⟨s1, s2⟩).trans (hb s s1 s2)
    refine ⟨yPu_bv hp hv, ?_, ?_⟩
    · have e1 : zbd (yMkM m l v) (l + 1) = yPut (zbd (yCpM m l) (l + 1)) (v / 64) (v % 64) := zbd_ap ⟨v1, v2⟩
      rw [e1]
      exact yPut_cg hbd ⟨by omega, by omega⟩
    · have e1 : yMkM m l v 106 (l + 1) = 8 - yCpM m l 106 (l + 1) := zup_self
      rw [e1, hcm, hc]
/-- what is behind the second move -/
theorem zk_299 {a v : Int} {RS : List (List Int)} (h : yRl m 1 b c) (hv : v ∈ yMv b c) (ha : 0 ≤ a ∧ a < 4096) (hx : yCx m w) (hP : 2 ≤ (yGa w).length ∧ (yGa w).length ≤ 3) (h37 : m 98 37 = 0) (hq : yRq m RS) (hl : RS.length ≤ 70000) : ∃ m', zmD zP (d + 8) 299 [zr 98, zi a, zi v] (zW L m) = some (none, zW L m') ∧ yFq (yPz 2) m m' ∧ (yMany ((yGa w).drop 2) (yBv b v) (8 - c) → m' 98 37 = 1) ∧ (¬ yMany ((yGa w).drop 2) (yBv b v) (8 - c) → m' 98 37 = 0 ∧ yRq m' (RS ++ (yRdg ((yGa w).drop 2) (yBv b v) (8 - c)).map fun s => [a, v] ++ s)) := by
  obtain ⟨⟨v1, v2⟩, -⟩ := yMv_go hv
  have h27 := hx.2.1
  rw [zen_299, zb_299_0, zgi_98, zbs, h27]
  by_cases g : (yGa w).length = 2
  · obtain ⟨M, r1, r2, r3⟩ := zk_297 (L := L) (d + 5) hq (by omega) (s := [a, v]) (fun k _ => yokd (fun x hx => by
      rcases List.mem_cons.mp hx with rfl | hx
      · exact ha
      · rw [List.mem_singleton.mp hx]
        exact ⟨v1, v2⟩) k) a v (-1) rfl rfl rfl
    rw [if_pos (by omega), zcv_98, r1, zbs, zmG_n, zb_299_15, List.drop_eq_nil_of_le (by omega)]
    exact ⟨M, rfl, yPz_7 r2, fun q => absurd q id, fun _ => ⟨by rw [r2 98 37 (by omega), h37], r3⟩⟩
  · obtain ⟨M1, r1, r2, r3⟩ := yr_274b (L := L) (d + 4) (l := 1) (by decide) h hv
    have F1 : yFq (yPz 2) m M1 := yPz_lv r2
    obtain ⟨M2, s1, s2, s3, s4, s5⟩ := zk_295 (L := L) (m := M1) d (l := 2) (by decide) r3 (yCx_z hx F1) (by omega) (by rw [r2 98 37 (by omega), h37])
    have F2 := yFq_tr F1 (yPz_5 s2)
    have s1' : zmD zP (d + 7) 295 [zr 98, zi 2, zi 2] (zW L M1) = _ := s1
    rw [yDrop_n (show 2 < (yGa w).length by omega), List.drop_eq_nil_of_le (show (yGa w).length ≤ 2 + 1 by omega)]
    generalize (yGa w).getD 2 [] = p at *
    generalize yBv b v = b2 at *
    generalize 8 - c = c2 at *
    have hq2 : yRq M2 RS := yRq_fr (yRq_fr hq r2 (by omega) fun j => by omega) s2 (by omega) fun j => by omega
    rw [if_neg (by omega), zcv_98, r1, zbs, zmG_n, zb_299_22, zcv_98, s1', zbs, zmG_n, zb_299_28]
    obtain ⟨fl, efl⟩ : ∃ fl, fl = yFl b2 c2 p := ⟨_, rfl⟩
    have e108 : M2 108 2 = fl.length := by rw [efl]; exact s4.1
    have hle := s4.2.1
    rw [← efl] at hle s5
    have e107 : ∀ i : Nat, i < fl.length → M2 107 (1024 + i) = fl.getD i 0 := fun i hi => by
      have := s4.2.2 i (by rw [← efl]; exact hi)
      rw [← efl] at this
      exact this
    have hfv : ∀ u ∈ fl, 0 ≤ u ∧ u < 4096 := fun u hu => (yMv_go (List.mem_filter.mp (by rw [efl] at hu; exact hu)).1).1
    suffices go : ∀ (k i : Nat) (M : Nat → Int → Int), i + k = fl.length → yFq (fun x j => x = 98 ∧ j = 34 ∨ x = 116 ∨ x = 117) M2 M → yRq M (RS ++ (yRdi fl [] b2 c2 i).map fun s => [a, v] ++ s) → (RS ++ (yRdi fl [] b2 c2 i).map fun s => [a, v] ++ s).length = RS.length + i → ∃ m', zmE (zmD zP (d+7)) zc_299 (30, [some (zr 98), some (zi a), some (zi v), some (zi i)], [], zW L M) = some (none, zW L m') ∧ yFq (fun x j => x = 98 ∧ j = 34 ∨ x = 116 ∨ x = 117) M2 m' ∧ yRq m' (RS ++ (yRdi fl [] b2 c2 fl.length).map fun s => [a, v] ++ s) by
      obtain ⟨m', u1, u2, u3⟩ := go fl.length 0 M2 (by omega) yFq_rfl (by rw [yRdi_0, List.map_nil, List.append_nil]; exact hq2) (by rw [yRdi_0, List.map_nil, List.append_nil]; omega)
      refine ⟨m', u1, yFq_tr F2 (yPz_7 u2), fun q => ?_, fun q => ?_⟩
      · rw [u2 98 37 (by omega), s5, if_pos]
        rw [efl]
        exact yMany_one.mp q
      · refine ⟨?_, ?_⟩
        · rw [u2 98 37 (by omega), s5, if_neg]
          rw [efl]
          exact fun k => q (yMany_one.mpr k)
        · rw [efl, yRdi_all] at u3
          exact u3
    intro k
    induction k with
    | zero =>
      intro i M hi f1 f2 f3
      rw [show i = fl.length by omega] at f2
      rw [zb_299_30, zgr_98_12, zbs, zai_108 (by decide) (by decide), zbs, f1 108 2 (by omega), e108, if_neg (by omega)]
      exact ⟨M, rfl, f1, f2⟩
    | succ k ih =>
      intro i M hi f1 f2 f3
      have hu := hfv _ (yMem_get.mpr ⟨i, by omega, rfl⟩ : fl.getD i 0 ∈ fl)
      have es := yRdi_s (ps := []) (b := b2) (c := c2) (show i < fl.length by omega)
      have es2 : (RS ++ (yRdi fl [] b2 c2 (i + 1)).map fun s => [a, v] ++ s) = (RS ++ (yRdi fl [] b2 c2 i).map fun s => [a, v] ++ s) ++ [[a, v, fl.getD i 0]] := by
        rw [es, List.map_append, ← List.append_assoc]
        rfl
      obtain ⟨M3, t1, t2, t3⟩ := zk_297 (L := L) (m := M) (d + 5) f2 (by omega) (s := [a, v, fl.getD i 0]) (fun k _ => yokd (fun x hx => by
        rcases List.mem_cons.mp hx with rfl | hx
        · exact ha
        · rcases List.mem_cons.mp hx with rfl | hx
          · exact ⟨v1, v2⟩
          · rw [List.mem_singleton.mp hx]
            exact hu) k) a v (fl.getD i 0) rfl rfl rfl
      rw [zb_299_30, zgr_98_12, zbs, zai_108 (by decide) (by decide), zbs, f1 108 2 (by omega), e108, if_pos (by omega), zgr_98_11, zbs, w32_of (by omega) (by omega), zai_107 (by omega) (by omega), zbs, f1 107 _ (by omega), e107 i (by omega), zcv_98, t1, zbs, zmG_n, zb_299_56, w32_of (by omega) (by omega)]
      refine ih (i + 1) M3 (by omega) (yFq_tr f1 t2) (by rw [es2]; exact t3) ?_
      rw [es2, List.length_append, List.length_singleton, f3]
      omega
/-- what is behind the first move -/
theorem zk_296 {a : Int} {RS : List (List Int)} (h : yRl m 0 b c) (hv : a ∈ yMv b c) (hx : yCx m w) (hP : 1 ≤ (yGa w).length ∧ (yGa w).length ≤ 3) (h37 : m 98 37 = 0) (hq : yRq m RS) (hl : RS.length ≤ 65000) : ∃ m', zmD zP (d + 9) 296 [zr 98, zi a] (zW L m) = some (none, zW L m') ∧ yFq (yPz 1) m m' ∧ (yMany ((yGa w).drop 1) (yBv b a) (8 - c) → m' 98 37 = 1) ∧ (¬ yMany ((yGa w).drop 1) (yBv b a) (8 - c) → m' 98 37 = 0 ∧ yRq m' (RS ++ (yRdg ((yGa w).drop 1) (yBv b a) (8 - c)).map fun s => [a] ++ s)) := by
  obtain ⟨⟨v1, v2⟩, -⟩ := yMv_go hv
  have h27 := hx.2.1
  rw [zen_296, zb_296_0, zgi_98, zbs, h27]
  by_cases g : (yGa w).length = 1
  · obtain ⟨M, r1, r2, r3⟩ := zk_297 (L := L) (d + 6) hq (by omega) (s := [a]) (fun k _ => yokd (fun x hx => by
      rw [List.mem_singleton.mp hx]
      exact ⟨v1, v2⟩) k) a (-1) (-1) rfl rfl rfl
    rw [if_pos (by omega), zcv_98, r1, zbs, zmG_n, zb_296_15, List.drop_eq_nil_of_le (by omega)]
    exact ⟨M, rfl, yPz_7 r2, fun q => absurd q id, fun _ => ⟨by rw [r2 98 37 (by omega), h37], r3⟩⟩
  · obtain ⟨M1, r1, r2, r3⟩ := yr_274b (L := L) (d + 5) (l := 0) (by decide) h hv
    have F1 : yFq (yPz 1) m M1 := yPz_lv r2
    obtain ⟨M2, s1, s2, s3, s4, s5⟩ := zk_295 (L := L) (m := M1) (d + 1) (l := 1) (by decide) r3 (yCx_z hx F1) (by omega) (by rw [r2 98 37 (by omega), h37])
    have F2 := yFq_tr F1 (yPz_5 s2)
    have s1' : zmD zP (d + 8) 295 [zr 98, zi 1, zi 1] (zW L M1) = _ := s1
    have hx2 := yCx_z hx F2
    rw [yDrop_n (show 1 < (yGa w).length by omega)]
    generalize ep : (yGa w).getD 1 [] = p at *
    generalize yBv b a = b2 at *
    generalize 8 - c = c2 at *
    have hq2 : yRq M2 RS := yRq_fr (yRq_fr hq r2 (by omega) fun j => by omega) s2 (by omega) fun j => by omega
    rw [if_neg (by omega), zcv_98, r1, zbs, zmG_n, zb_296_22, zcv_98, s1', zbs, zmG_n, zb_296_28]
    obtain ⟨fl, efl⟩ : ∃ fl, fl = yFl b2 c2 p := ⟨_, rfl⟩
    have s4' : yRm M2 1 fl := by rw [efl]; exact s4
    rw [← efl] at s5
    have hle := s4'.2.1
    have hmv : ∀ u ∈ fl, u ∈ yMv b2 c2 := fun u hu => (List.mem_filter.mp (by rw [efl] at hu; exact hu)).1
    -- full: at once back
    have stop : ∀ (i : Nat) (M : Nat → Int → Int), M 98 37 = 1 → zmE (zmD zP (d+8)) zc_296 (30, [some (zr 98), some (zi a), some (zi i)], [], zW L M) = some (none, zW L M) := fun i M q => by
      rw [zb_296_30, zgr_98_12, zbs, zai_108 (by decide) (by decide), zbs, zgi_98, zbs, q, if_neg (c := (1 : Int) = 0) (by decide)]
      split <;> rfl
    have stop0 : ∀ (M : Nat → Int → Int), M 98 37 = 1 → zmE (zmD zP (d+8)) zc_296 (30, [some (zr 98), some (zi a), some (zi 0)], [], zW L M) = some (none, zW L M) := fun M q => stop 0 M q
    by_cases g40 : 40 < fl.length
    · rw [if_pos g40] at s5
      have hm : yMany (p :: (yGa w).drop (1 + 1)) b2 c2 := .inl (by rw [← efl]; exact g40)
      rw [stop0 M2 s5]
      exact ⟨M2, rfl, F2, fun _ => s5, fun q => absurd hm q⟩
    · rw [if_neg g40] at s5
      suffices go : ∀ (k i : Nat) (M : Nat → Int → Int), i + k = fl.length → yFq (yPz 2) M2 M → M 98 37 = 0 → yRq M (RS ++ (yRdi fl ((yGa w).drop 2) b2 c2 i).map fun s => [a] ++ s) → (∀ j : Nat, j < i → ¬ yMany ((yGa w).drop 2) (yBv b2 (fl.getD j 0)) (8 - c2)) → ∃ m', zmE (zmD zP (d+8)) zc_296 (30, [some (zr 98), some (zi a), some (zi i)], [], zW L M) = some (none, zW L m') ∧ yFq (yPz 2) M2 m' ∧ (yMany (p :: (yGa w).drop (1 + 1)) b2 c2 → m' 98 37 = 1) ∧ (¬ yMany (p :: (yGa w).drop (1 + 1)) b2 c2 → m' 98 37 = 0 ∧ yRq m' (RS ++ (yRdg (p :: (yGa w).drop (1 + 1)) b2 c2).map fun s => [a] ++ s)) by
        obtain ⟨m', u1, u2, u3⟩ := go fl.length 0 M2 (by omega) yFq_rfl s5 (by rw [yRdi_0, List.map_nil, List.append_nil]; exact hq2) fun j hj => absurd hj (Nat.not_lt_zero j)
        exact ⟨m', u1, yFq_tr F2 (yPz_le (by decide) u2), u3⟩
      intro k
      induction k with
      | zero =>
        intro i M hi f1 f2 f3 f4
        rw [show i = fl.length by omega] at f3 f4
        have rm := yRm_z s4' f1 (by decide)
        rw [zb_296_30, zgr_98_12, zbs, zai_108 (by decide) (by decide), zbs, rm.1, if_neg (by omega)]
        have nm : ¬ yMany (p :: (yGa w).drop (1 + 1)) b2 c2 := by
          rintro (q | ⟨u, hu, q⟩)
          · rw [← efl] at q
            exact g40 q
          · rw [← efl] at hu
            obtain ⟨j, j1, j2⟩ := yMem_get.mp hu
            rw [← j2] at q
            exact f4 j j1 q
        refine ⟨M, rfl, f1, fun q => absurd q nm, fun _ => ⟨f2, ?_⟩⟩
        rw [efl, yRdi_all] at f3
        exact f3
      | succ k ih =>
        intro i M hi f1 f2 f3 f4
        have hu : fl.getD i 0 ∈ fl := yMem_get.mpr ⟨i, by omega, rfl⟩
        have rm := yRm_z s4' f1 (by decide)
        have e107 := yRm_i rm (i := i) (by omega)
        rw [show (512 : Int) * 1 + (i : Nat) = 512 + i by omega] at e107
        have h40 : 40 ^ ((yGa w).drop 2).length ≤ 40 := by
          rw [List.length_drop]
          have : (yGa w).length - 2 = 0 ∨ (yGa w).length - 2 = 1 := by omega
          rcases this with q | q <;> rw [q] <;> decide
        have hI := yRdi_len (fl := fl) (ps := (yGa w).drop 2) (b := b2) (c := c2) (B := 40) i (by omega) fun j hj => Nat.le_trans (yRdg_len _ _ _ (f4 j hj)) h40
        have es := yRdi_s (ps := (yGa w).drop 2) (b := b2) (c := c2) (show i < fl.length by omega)
        obtain ⟨M3, t1, t2, t3, t4⟩ := zk_299 (L := L) (m := M) d (a := a) (yRl_z s3 f1 (by decide)) (hmv _ hu) ⟨v1, v2⟩ (yCx_z hx2 f1) (by omega) f2 f3 (by rw [List.length_append, List.length_map]; omega)
        have F3 := yFq_tr f1 t2
        rw [zb_296_30, zgr_98_12, zbs, zai_108 (by decide) (by decide), zbs, rm.1, if_pos (by omega), zgi_98, zbs, f2, if_pos rfl, zgr_98_11, zbs, w32_of (by omega) (by omega), zai_107 (by omega) (by omega), zbs, e107, zcv_98, t1, zbs, zmG_n, zb_296_62, w32_of (by omega) (by omega)]
        by_cases gm : yMany ((yGa w).drop 2) (yBv b2 (fl.getD i 0)) (8 - c2)
        · have hm : yMany (p :: (yGa w).drop (1 + 1)) b2 c2 := .inr ⟨_, by rw [← efl]; exact hu, gm⟩
          have q37 := t3 gm
          have := stop (i + 1) M3 q37
          rw [Int.natCast_succ] at this
          rw [this]
          exact ⟨M3, rfl, F3, fun _ => q37, fun q => absurd hm q⟩
        · obtain ⟨q1, q2⟩ := t4 gm
          refine ih (i + 1) M3 (by omega) F3 q1 ?_ fun j hj => ?_
          · rw [es, List.map_append, ← List.append_assoc, List.map_map]
            exact q2
          · by_cases g2 : j = i
            · rw [g2]
              exact gm
            · exact f4 j (by omega)
end ZR
