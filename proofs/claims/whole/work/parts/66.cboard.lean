/-! the class's acts on the board -/
section ST
variable {m m' : Nat → Int → Int} {w w' : Int → List Int} {b b' : Int → Int} {c n e c' n' e' : Int} {W F : Int → Int} {Z : Int → List Int}
theorem yCs_mk (h : yCs m w b c n e W F Z) (q : ∀ x, (x = 11 ∨ x = 18 ∨ x = 19 ∨ x = 25 ∨ x = 27 ∨ 90 ≤ x ∧ x ≤ 97 ∨ 1000 ≤ x) → m' x = m x) (tx : yTw m' 2 80 (w' 0) ∧ yTw m' 4 10 (w' 1) ∧ yTw m' 6 60 (w' 2)) (bd : yGd2 m' 8 9 ∧ yAg (yB (m' 9)) b' ∧ 8 * m' 8 1 = c') (fl : m' 0 13 = (yHome (w' 0)).1 ∧ m' 0 14 = n' ∧ m' 0 15 = e') (li : m' 0 16 = 0 ∨ m' 0 16 = 1 ∧ yNm2 m' 13 b' (yMv b' c')) : yCs m' w' b' c' n' e' W F Z := by
  obtain ⟨-, -, -, -, e1, f1, g1, g2, g3, g4⟩ := h
  refine ⟨tx, bd, fl, li, ?_, by rw [q 19 (by omega)]; exact f1, yShC_fr g1 (q 90 (by omega)) (q 91 (by omega)), yShC_fr g2 (q 92 (by omega)) (q 93 (by omega)), yShC_fr g3 (q 94 (by omega)) (q 95 (by omega)), yShC_fr g4 (q 96 (by omega)) (q 97 (by omega))⟩
  refine yFix_fr (P := fun x _ => ¬ (x = 11 ∨ x = 27 ∨ x = 18 ∨ x = 25 ∨ 1000 ≤ x)) e1 (fun x j hx => ?_) (fun x j hx hn => hn hx)
  have hx' : x = 11 ∨ x = 27 ∨ x = 18 ∨ x = 25 ∨ 1000 ≤ x := Classical.byContradiction hx
  rw [q x (by omega)]
end ST
theorem yGd2_c {m m' : Nat → Int → Int} {a e : Nat} (h : yGd2 m a e) (h1 : m' a = m a) (h2 : m' e = m e) (h3 : ∀ x, 1000 ≤ x → m' x = m x) : yGd2 m' a e := by
  have qt : ∀ j, m' (zXB + j) = m (zXB + j) := fun j => h3 _ (by unfold zXB; omega)
  unfold yGd2 yTab
  rw [h1, h2, qt, qt, qt, qt, qt]
  exact h
def yPl (x : Nat) (j : Int) : Prop := 13 ≤ x ∧ x ≤ 16 ∨ x = 0 ∧ j = 16
section ZR
variable {L : Nat} {m : Nat → Int → Int} (D : Nat) {w : Int → List Int} {b : Int → Int} {c n e : Int} {W F : Int → Int} {Z : Int → List Int}
theorem yLs_13 {L : Nat} : yLs L 13 640 := ⟨⟨zh_13, (zw_gr (L := L) (m := fun _ _ => 0) (congrArg Prod.fst zh_13)).symm.trans zgr_13_0, (zw_gr (L := L) (m := fun _ _ => 0) (congrArg Prod.fst zh_13)).symm.trans zgr_13_1, (zw_gr (L := L) (m := fun _ _ => 0) (congrArg Prod.fst zh_13)).symm.trans zgr_13_2⟩, ⟨zh_14, zh_15, zh_16⟩, by decide, by decide⟩
theorem yNm_17 {L : Nat} : yNm L 17 := ⟨zh_17, (zw_gr (L := L) (m := fun _ _ => 0) (congrArg Prod.fst zh_17)).symm.trans zgr_17_0, zh_18, by decide⟩
theorem yTo_2 {L : Nat} : yTo L 2 80 := ⟨⟨zh_2, (zw_gr (L := L) (m := fun _ _ => 0) (congrArg Prod.fst zh_2)).symm.trans zgr_2_0, zh_3⟩, by decide, by decide⟩
theorem yTo_4 {L : Nat} : yTo L 4 10 := ⟨⟨zh_4, (zw_gr (L := L) (m := fun _ _ => 0) (congrArg Prod.fst zh_4)).symm.trans zgr_4_0, zh_5⟩, by decide, by decide⟩
theorem yTo_6 {L : Nat} : yTo L 6 60 := ⟨⟨zh_6, (zw_gr (L := L) (m := fun _ _ => 0) (congrArg Prod.fst zh_6)).symm.trans zgr_6_0, zh_7⟩, by decide, by decide⟩
theorem yFq_fr {lo hi : Nat} {P : Nat → Int → Prop} {m m' : Nat → Int → Int} (h : yFr lo hi m m') (h2 : ∀ x j, lo ≤ x → x ≤ hi → P x j) : yFq P m m' := fun x j hx => by
  rw [h x]
  apply Classical.byContradiction
  intro q
  exact hx (h2 x j (by omega) (by omega))
theorem yFr_of {lo hi : Nat} {P : Nat → Int → Prop} {m m' : Nat → Int → Int} (h : yFq P m m') (h2 : ∀ x j, P x j → lo ≤ x ∧ x ≤ hi) : yFr lo hi m m' := fun x hx => by
  funext j
  exact h x j fun q => by have := h2 x j q; omega
theorem yk_74 (h : yCs m w b c n e W F Z) : ∃ m', zmD zP (D + 5) 74 [zr 0] (zW L m) = some (none, zW L m') ∧ yFq yPl m m' ∧ yCs m' w b c n e W F Z ∧ yNm2 m' 13 b (yMv b c) := by
  have hpu := yCs_pu h
  have hh := h
  obtain ⟨a0, ⟨b1, b2, b3⟩, c0, d1, e1, f1, g1⟩ := h
  rw [zen_74, zb_74_0, zgi_0, zbs]
  rcases d1 with d1 | ⟨d1, d2⟩
  · obtain ⟨M1, r1, r2, r3, r4⟩ := zk_75a (L := L) (m := m) D yBd_8 (yGd2_1 b1) yLs_13 zh_11 (.inl (by decide)) (.inl (by decide)) (.inl (by decide)) (by decide) e1.2.1.1 e1.2.1.2.1 e1.2.1.2.2
    have hmv : yMv (yB (m 9)) (8 * m 8 1) = yMv b c := by rw [b3, yMv_cg b2]
    rw [hmv] at r3 r4
    have hok := yPu_ok hpu
    have r3' : yMl M1 13 b (yMv b c) := yMl_cg b2 (yOkv_cg (yAg_sym b2) hok) r3
    have hlen := yMv_le (b := b) (c := c) hpu.2.2.2
    have hz18 : ∀ s : Int, 0 ≤ s → s < 3072 → M1 18 s = 0 := fun s s1 s2 => by
      rw [r2 18 (.inr (by decide))]
      exact e1.2.2.2.1 s s1 s2
    obtain ⟨M2, t1, t2, f, t3, t4⟩ := zk_89 (L := L) (m := M1) D yNm_17 yLs_13 (yTab_fr b1.1 r2 (by decide)) r3' r4 (by omega) hok (.inr (by decide)) hz18 0
    rw [if_pos d1, zgr_0_1, zbs, zgr_0_5, zbs, zgr_0_3, zbs, zcv_8, r1, zbs, zmG_n, zb_74_22, zgr_0_6, zbs, zgr_0_5, zbs, zcv_17, t1, zbs, zmG_n, zb_74_34, zpz_0 (.inr rfl), zbs]
    have F1 : yFq yPl m M1 := yFq_fr r2 fun x j x1 x2 => .inl ⟨by omega, by omega⟩
    have F2 : yFq yPl M1 M2 := yFq_fr t2 fun x j x1 x2 => .inl ⟨by omega, by omega⟩
    have F3 : yFq yPl m (zup M2 0 16 1) := yFq_up (yFq_tr F1 F2) (.inr ⟨rfl, rfl⟩)
    have hN : yNm2 (zup M2 0 16 1) 13 b (yMv b c) := by
      have q : ∀ x, x ≠ 0 → zup M2 0 16 1 x = M2 x := fun x hx => by
        funext j
        exact zup_ne hx
      unfold yNm2 yMl
      rw [q 13 (by decide), q (13 + 1) (by decide), q (13 + 2) (by decide), q (13 + 3) (by decide), t2 13 (.inl (by decide)), t2 (13 + 1) (.inl (by decide)), t2 (13 + 2) (.inl (by decide))]
      refine ⟨r3', fun i hi => ?_⟩
      rw [t4 i hi]
      exact yDone_whole t3 hi
    refine ⟨_, rfl, F3, ?_, hN⟩
    have k : ∀ x j, ¬ yPl x j → zup M2 0 16 1 x j = m x j := F3
    have kx : ∀ x, x ≠ 0 → ¬ (13 ≤ x ∧ x ≤ 16) → zup M2 0 16 1 x = m x := fun x x1 x2 => by
      funext j
      exact k x j (by unfold yPl; omega)
    exact yCs_mk hh (fun x hx => kx x (by omega) (by omega)) ⟨yTw_c a0.1 (kx 2 (by decide) (by decide)) (kx 3 (by decide) (by decide)), yTw_c a0.2.1 (kx 4 (by decide) (by decide)) (kx 5 (by decide) (by decide)), yTw_c a0.2.2 (kx 6 (by decide) (by decide)) (kx 7 (by decide) (by decide))⟩ ⟨yGd2_c b1 (kx 8 (by decide) (by decide)) (kx 9 (by decide) (by decide)) (fun x hx => kx x (by omega) (by omega)), by rw [kx 9 (by decide) (by decide)]; exact b2, by rw [kx 8 (by decide) (by decide)]; exact b3⟩ ⟨by rw [k 0 13 (by unfold yPl; omega)]; exact c0.1, by rw [k 0 14 (by unfold yPl; omega)]; exact c0.2.1, by rw [k 0 15 (by unfold yPl; omega)]; exact c0.2.2⟩ (.inr ⟨zup_self, hN⟩)
  · rw [if_neg (by omega)]
    exact ⟨m, rfl, yFq_rfl, hh, d2⟩
theorem zk_101 (v : Int) {u : zmW} : zmD zP (D + 1) 101 [zi v] u = some (some (zi (if 0 ≤ v ∧ v < 4096 then 0 else 1)), u) := by
  rw [zen_101, zb_101_0, zb_101_11]
  by_cases g : v < 0
  · rw [if_pos g, if_neg (by omega)]
  · rw [if_neg g]
    by_cases g2 : 4095 < v
    · rw [if_pos g2, if_neg (by omega)]
    · rw [if_neg g2, if_pos (by omega)]
theorem yFq_pl {m m' : Nat → Int → Int} (h : yFq yPl m m') : yFr 0 97 m m' := yFr_of h fun x j q => by
  rcases q with q | q <;> omega
theorem yk_73 (h : yCs m w b c n e W F Z) (i : Int) : ∃ m', zmD zP (D + 6) 73 [zr 0, zi i] (zW L m) = some (some (zi (if i < -1 then -2 else if i = -1 then (yMv b c).length else yGet (yMv b c) i)), zW L m') ∧ yFr 0 97 m m' ∧ yCs m' w b c n e W F Z := by
  rw [zen_73, zb_73_0]
  by_cases g : i < -1
  · rw [if_pos g, if_pos g]
    exact ⟨m, rfl, yFr_rfl, h⟩
  · obtain ⟨M, r1, r2, r3, r4⟩ := yk_74 (L := L) D h
    have hl : M 13 3 = (yMv b c).length := r4.1.1
    have hle := yMv_le (b := b) (c := c) (yCs_pu h).2.2.2
    rw [if_neg g, if_neg g, zcv_0, r1, zbs, zmG_n, zb_73_12]
    by_cases g1 : i = -1
    · rw [if_pos g1, if_pos g1, zgr_0_5, zbs, zcv_13, zk_90 (D + 4) yLs_13, zbs, zmG_v, zb_73_24, zb_73_35, hl]
      exact ⟨M, rfl, yFq_pl r2, r3⟩
    · rw [if_neg g1, if_neg g1, zgr_0_5, zbs, zcv_13, zk_97 (D + 4) yLs_13 (by rw [hl]; omega), zbs, zmG_v, zb_73_35, hl]
      refine ⟨M, ?_, yFq_pl r2, r3⟩
      unfold yGet
      by_cases g2 : i < (yMv b c).length
      · have e1 := (r4.1.2 i.toNat (by omega)).1
        rw [show ((i.toNat : Nat) : Int) = i by omega] at e1
        rw [if_pos ⟨by omega, g2⟩, if_pos ⟨by omega, g2⟩]
        show some (some (zi (M (13 + 1) i)), zW L M) = _
        rw [e1]
      · rw [if_neg (by omega), if_neg (by omega)]
theorem yMem_get {xs : List Int} {v : Int} : v ∈ xs ↔ ∃ i : Nat, i < xs.length ∧ xs.getD i 0 = v := by
  constructor
  · intro h
    obtain ⟨i, h1, h2⟩ := List.getElem_of_mem h
    refine ⟨i, h1, ?_⟩
    rw [List.getD_eq_getElem?_getD, List.getElem?_eq_getElem h1]
    exact h2
  · rintro ⟨i, h1, rfl⟩
    rw [List.getD_eq_getElem?_getD, List.getElem?_eq_getElem h1]
    exact List.getElem_mem h1
/-- the place of a move in the list, as the class finds it -/
def yAt (xs : List Int) (v p : Int) : Prop := p = -1 ∧ v ∉ xs ∨ ∃ i : Nat, p = i ∧ i < xs.length ∧ xs.getD i 0 = v
theorem yk_102 (h : yCs m w b c n e W F Z) (v : Int) : ∃ (m' : Nat → Int → Int) (p : Int), zmD zP (D + 6) 102 [zr 0, zi v] (zW L m) = some (some (zi p), zW L m') ∧ yFq yPl m m' ∧ yCs m' w b c n e W F Z ∧ yNm2 m' 13 b (yMv b c) ∧ yAt (yMv b c) v p := by
  obtain ⟨M, r1, r2, r3, r4⟩ := yk_74 (L := L) D h
  have hl : M 13 3 = (yMv b c).length := r4.1.1
  have hle := yMv_le (b := b) (c := c) (yCs_pu h).2.2.2
  obtain ⟨p, p1, p2⟩ := zk_103 (L := L) (m := M) (D + 4) yLs_13 (by rw [hl]; omega) (by rw [hl]; omega) v
  rw [zen_102, zb_102_0, zcv_0, r1, zbs, zmG_n, zb_102_4, zgr_0_5, zbs, zcv_13, p1, zbs, zmG_v, zb_102_12]
  refine ⟨M, p, rfl, r2, r3, r4, ?_⟩
  rw [hl] at p2
  rcases p2 with ⟨q1, q2⟩ | ⟨q1, q2, q3⟩
  · refine .inl ⟨q1, fun hm => ?_⟩
    obtain ⟨i, i1, i2⟩ := yMem_get.mp hm
    have := q2 i (by omega) (by omega)
    exact this (((r4.1.2 i i1).1).trans i2)
  · refine .inr ⟨p.toNat, by omega, by omega, ?_⟩
    have e1 := (r4.1.2 p.toNat (by omega)).1
    rw [show ((p.toNat : Nat) : Int) = p by omega] at e1
    rw [← e1]
    exact q3
theorem yAt_n {xs : List Int} {v p : Int} (h : yAt xs v p) : p = -1 ↔ v ∉ xs := by
  rcases h with ⟨h1, h2⟩ | ⟨i, h1, h2, h3⟩
  · exact ⟨fun _ => h2, fun _ => h1⟩
  · exact ⟨fun q => by omega, fun q => absurd (yMem_get.mpr ⟨i, h2, h3⟩) q⟩
theorem yk_100 (h : yCs m w b c n e W F Z) (v : Int) : ∃ m', zmD zP (D + 7) 100 [zr 0, zi v] (zW L m) = some (some (zi (if 0 ≤ v ∧ v < 4096 then yT (v ∈ yMv b c) else -2)), zW L m') ∧ yFr 0 97 m m' ∧ yCs m' w b c n e W F Z := by
  rw [zen_100, zb_100_0, zk_101, zbs, zmG_v, zb_100_4]
  by_cases g : 0 ≤ v ∧ v < 4096
  · obtain ⟨M, p, r1, r2, r3, r4, r5⟩ := yk_102 (L := L) D h v
    rw [if_pos g, if_pos g, if_pos rfl, zcv_0, r1, zbs, zmG_v, zb_100_15]
    refine ⟨M, ?_, yFq_pl r2, r3⟩
    by_cases g2 : p = -1
    · rw [if_pos g2, yT_neg ((yAt_n r5).mp g2)]
    · rw [if_neg g2, yT_pos (Classical.byContradiction fun q => g2 ((yAt_n r5).mpr q))]
  · rw [if_neg g, if_neg g, if_neg (by decide)]
    exact ⟨m, rfl, yFr_rfl, h⟩
noncomputable def yStt (b : Int → Int) (c : Int) : Int := if yT (yAtt b c) = 0 then (if (yMv b c).length = 0 then 3 else 0) else if (yMv b c).length = 0 then 2 else 1
theorem yk_104 (h : yCs m w b c n e W F Z) : ∃ m', zmD zP (D + 6) 104 [zr 0] (zW L m) = some (some (zi (yStt b c)), zW L m') ∧ yFr 0 97 m m' ∧ yCs m' w b c n e W F Z := by
  obtain ⟨M, r1, r2, r3, r4⟩ := yk_74 (L := L) D h
  have hl : M 13 3 = (yMv b c).length := r4.1.1
  have hg := yGd2_1 r3.2.1.1
  have hatt : yT (yAtt (yB (M 9)) (8 * M 8 1)) = yT (yAtt b c) := by
    rw [r3.2.1.2.2]
    exact yT_c ⟨yAtt_cg r3.2.1.2.1, yAtt_cg (yAg_sym r3.2.1.2.1)⟩
  unfold yStt
  rw [zen_104, zb_104_0, zcv_0, r1, zbs, zmG_n, zb_104_4, zgr_0_5, zbs, zcv_13, zk_90 (D + 4) yLs_13, zbs, zmG_v, zb_104_11, hl]
  have fin : ∀ s : Int, s = (if (yMv b c).length = 0 then 1 else 0) → ∃ m', zmE (zmD zP (D+5)) zc_104 (19, [some (zr 0), none], [zi s], zW L M) = some (some (zi (if yT (yAtt b c) = 0 then (if (yMv b c).length = 0 then 3 else 0) else if (yMv b c).length = 0 then 2 else 1)), zW L m') ∧ yFr 0 97 m m' ∧ yCs m' w b c n e W F Z := fun s hs => by
    rw [zb_104_19, zgr_0_1, zbs, zcv_8, zk_105 (D + 2) yBd_8 hg.1 hg.2.1 hg.2.2.1 hg.2.2.2, zbs, zmG_v, zb_104_27, hatt]
    refine ⟨M, ?_, yFq_pl r2, r3⟩
    by_cases g : (yMv b c).length = 0
    · rw [if_pos g] at hs
      rw [hs, if_pos g, if_pos g, if_neg (c := (1 : Int) = 0) (by decide)]
      split <;> rfl
    · rw [if_neg g] at hs
      rw [hs, if_neg g, if_neg g, if_pos rfl]
      split <;> rfl
  by_cases g : ((yMv b c).length : Int) = 0
  · rw [if_pos g]
    exact fin 1 (by rw [if_pos (by omega)])
  · rw [if_neg g]
    exact fin 0 (by rw [if_neg (by omega)])
/-- a move in the list is one that may be made -/
theorem yMv_go {b : Int → Int} {c v : Int} (h : v ∈ yMv b c) : (0 ≤ v ∧ v < 4096) ∧ v / 64 ≠ v % 64 := by
  obtain ⟨h1, h2, h3⟩ := yMv_mem.mp h
  exact ⟨⟨h1, h2⟩, fun q => by
    have := h3.1
    rw [q] at this
    exact this.2.1 this.1⟩
theorem yk_107 (h : yCs m w b c n e W F Z) (hn : 0 ≤ n ∧ n ≤ 2000000000) (v : Int) : ∃ m', zmD zP (D + 7) 107 [zr 0, zi v] (zW L m) = some (some (zi (yT (v ∈ yMv b c))), zW L m') ∧ yFr 0 97 m m' ∧ (v ∉ yMv b c → yCs m' w b c n e W F Z) ∧ (v ∈ yMv b c → yCs m' w (yPut b (v / 64) (v % 64)) (8 - c) (n + 1) e W F Z) := by
  obtain ⟨M, p, r1, r2, r3, r4, r5⟩ := yk_102 (L := L) D h v
  rw [zen_107, zb_107_0, zcv_0, r1, zbs, zmG_v, zb_107_5]
  by_cases g : p = -1
  · have g2 := (yAt_n r5).mp g
    rw [if_pos g, yT_neg g2]
    exact ⟨M, rfl, yFq_pl r2, fun _ => r3, fun q => absurd q g2⟩
  · have g2 : v ∈ yMv b c := Classical.byContradiction fun q => g ((yAt_n r5).mpr q)
    obtain ⟨v1, v2⟩ := yMv_go g2
    obtain ⟨a0, ⟨b1, b2, b3⟩, c0, d1, e1, f1, g1⟩ := r3
    have r3 : yCs M w b c n e W F Z := ⟨a0, ⟨b1, b2, b3⟩, c0, d1, e1, f1, g1⟩
    obtain ⟨k1, k2, k3, k4⟩ := yMake (L := L) (m := M) yBd_8 b1 (f := v / 64) (t := v % 64) ⟨by omega, by omega⟩ ⟨by omega, by omega⟩ v2
    rw [if_neg g, zgr_0_1, zbs, zcv_8, zk_108 (D + 4) yBd_8 v v1 b1.2.2.1, zbs, zmG_n, zb_107_19]
    generalize zup (yMkC M 8 9 (v / 64) (v % 64)) 8 1 (1 - M 8 1) = M2 at *
    have q0 : M2 0 = M 0 := k4 0 (by decide) (by decide)
    rw [zgi_0, zbs, q0, c0.2.1, zpi_0, zbs, zpz_0 (.inl rfl), zbs, w32_of (by omega) (by omega), yT_pos g2]
    have kx : ∀ x, x ≠ 0 → x ≠ 8 → x ≠ 9 → zup (zup M2 0 14 (n + 1)) 0 16 0 x = M x := fun x x1 x2 x3 => by
      funext j
      rw [zup_ne x1, zup_ne x1, k4 x x2 x3]
    have k8 : ∀ x, x ≠ 0 → zup (zup M2 0 14 (n + 1)) 0 16 0 x = M2 x := fun x x1 => by
      funext j
      rw [zup_ne x1, zup_ne x1]
    refine ⟨_, rfl, yFr_tr (yFq_pl r2) (fun x hx => kx x (by omega) (by omega) (by omega)), fun q => absurd g2 q, fun _ => ?_⟩
    refine yCs_mk r3 (fun x hx => kx x (by omega) (by omega) (by omega)) ⟨yTw_c a0.1 (kx 2 (by decide) (by decide) (by decide)) (kx 3 (by decide) (by decide) (by decide)), yTw_c a0.2.1 (kx 4 (by decide) (by decide) (by decide)) (kx 5 (by decide) (by decide) (by decide)), yTw_c a0.2.2 (kx 6 (by decide) (by decide) (by decide)) (kx 7 (by decide) (by decide) (by decide))⟩ ⟨yGd2_c k1 (k8 8 (by decide)) (k8 9 (by decide)) (fun x hx => k8 x (by omega)), ?_, ?_⟩ ⟨?_, ?_, ?_⟩ (.inl zup_self)
    · rw [k8 9 (by decide)]
      exact yAg_tr k2 (yPut_cg b2 ⟨by omega, by omega⟩)
    · rw [k8 8 (by decide), k3]
      omega
    · rw [zup_ne2 (by decide), zup_ne2 (by decide), q0]
      exact c0.1
    · rw [zup_ne2 (by decide), zup_self]
    · rw [zup_ne2 (by decide), zup_ne2 (by decide), q0]
      exact c0.2.2
theorem yk_106 (h : yCs m w b c n e W F Z) (hn : 0 ≤ n ∧ n ≤ 2000000000) (v : Int) : ∃ m', zmD zP (D + 8) 106 [zr 0, zi v] (zW L m) = some (some (zi (if 0 ≤ v ∧ v < 4096 then (if yT (v ∈ yMv b c) = 0 then -3 else n + 1) else -2)), zW L m') ∧ yFr 0 97 m m' ∧ (v ∉ yMv b c → yCs m' w b c n e W F Z) ∧ (v ∈ yMv b c → yCs m' w (yPut b (v / 64) (v % 64)) (8 - c) (n + 1) e W F Z) := by
  rw [zen_106, zb_106_0, zk_101, zbs, zmG_v, zb_106_4]
  by_cases g : 0 ≤ v ∧ v < 4096
  · obtain ⟨M, r1, r2, r3, r4⟩ := yk_107 (L := L) D h hn v
    rw [if_pos g, if_pos g, if_pos rfl, zcv_0, r1, zbs, zmG_v, zb_106_15]
    by_cases g2 : v ∈ yMv b c
    · rw [yT_pos g2, if_neg (by decide), if_neg (by decide), zgi_0, zbs, (r4 g2).2.2.1.2.1]
      exact ⟨M, rfl, r2, r3, r4⟩
    · rw [yT_neg g2, if_pos rfl, if_pos rfl]
      exact ⟨M, rfl, r2, r3, r4⟩
  · rw [if_neg g, if_neg g, if_neg (by decide)]
    exact ⟨m, rfl, yFr_rfl, fun _ => h, fun q => absurd (yMv_go q).1 g⟩
theorem yk_62 (h : yCs m w b c n e W F Z) (s : Int) : ∃ m', zmD zP (D + 6) 62 [zr 0, zi s] (zW L m) = some (some (zi (if 0 ≤ s ∧ s < 64 then zbyte (b s) else -2)), zW L m') ∧ yFr 0 97 m m' ∧ yCs m' w b c n e W F Z := by
  rw [zen_62, zb_62_0]
  refine ⟨m, ?_, yFr_rfl, h⟩
  by_cases g : s < 0
  · rw [if_pos g, if_neg (by omega)]
  · rw [if_neg g]
    by_cases g2 : s < 64
    · have hB := h.2.1.1.2.1 s (by omega) g2
      have hb := h.2.1.2.1 s (by omega) g2
      rw [if_pos g2, if_pos ⟨by omega, g2⟩, zgr_0_1, zbs, zcv_8, zen_63, zb_63_0, if_neg g, if_pos g2, zgr_8_0, zbs, zai_9 (by omega) g2, zbs, zk_64 D h.2.2.2.2.1.1 _ hB, zbs, zmG_v, zb_63_19, zbs, zmG_v, zb_62_21, ← hb]
      have : yLet (m 9 s) = zbyte (yB (m 9) s) := by
        unfold yLet zbyte yB yEnc
        by_cases k : m 9 s < 0
        · rw [if_neg (by omega), if_pos ⟨k, hB.1⟩, if_pos k, if_neg (by omega), if_pos (by omega), show 8 - m 9 s - 8 = -m 9 s by omega]
        · rw [if_neg k]
          by_cases k2 : m 9 s = 0
          · rw [if_neg (by omega), if_neg (by omega), if_pos k2]
          · rw [if_pos ⟨by omega, hB.2⟩, if_neg k2, if_neg (by omega)]
      rw [this]
    · rw [if_neg g2, if_neg (by omega)]
theorem yk_71 (h : yCs m w b c n e W F Z) : ∃ m', zmD zP (D + 2) 71 [zr 0] (zW L m) = some (some (zi (if c = 0 then 0 else 1)), zW L m') ∧ yFr 0 97 m m' ∧ yCs m' w b c n e W F Z := by
  have ht := h.2.1.1.2.2.1
  have hc := h.2.1.2.2
  rw [zen_71, zb_71_0, zgr_0_1, zbs, zcv_8, zen_72, zb_72_0, zgi_8, zbs, zbs, zmG_v, zb_71_7]
  refine ⟨m, ?_, yFr_rfl, h⟩
  rcases ht with q | q
  · rw [q, if_pos (by omega)]
  · rw [q, if_neg (by omega)]
end ZR
