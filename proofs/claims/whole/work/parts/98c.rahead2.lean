/-! gain and ahead of the reference -/
/-- what lies in the row of gains when the first n of the best are taken -/
def yGl (G : Nat → Int) (T : List Nat) (n : Nat) (a : Nat) : Int := if a ∈ T.take n then 0 else G a
theorem yGl_pick {G : Nat → Int} {N n : Nat} (h : n < (yRnk G N).length) : (yRnk G N).getD n 0 < N ∧ 0 < yGl G (yRnk G N) n ((yRnk G N).getD n 0) ∧ ∀ a : Nat, a < N → yGl G (yRnk G N) n a ≤ yGl G (yRnk G N) n ((yRnk G N).getD n 0) ∧ (a < (yRnk G N).getD n 0 → yGl G (yRnk G N) n a < yGl G (yRnk G N) n ((yRnk G N).getD n 0)) := by
  have hpw := yRnk_pw (G := G) N
  have hmem := fun r => yRnk_mem (G := G) (r := r) N
  generalize yRnk G N = T at *
  have hs := ynmem h
  obtain ⟨s1, s2⟩ := (hmem _).mp hs
  have ed : T.drop n = T.getD n 0 :: T.drop (n + 1) := by
    rw [List.drop_eq_getElem_cons h, List.getD_eq_getElem?_getD, List.getElem?_eq_getElem h]
    rfl
  have et := List.take_append_drop n T
  rw [ed] at et
  rw [← et] at hpw
  obtain ⟨p1, p2, p3⟩ := List.pairwise_append.mp hpw
  have p4 := (List.pairwise_cons.mp p2).1
  have nin : T.getD n 0 ∉ T.take n := fun q => by
    rcases p3 _ q _ List.mem_cons_self with k | k
    · omega
    · omega
  have es : yGl G T n (T.getD n 0) = G (T.getD n 0) := if_neg nin
  rw [es]
  refine ⟨s1, s2, fun a ha => ?_⟩
  unfold yGl
  by_cases g : a ∈ T.take n
  · rw [if_pos g]
    omega
  · rw [if_neg g]
    by_cases g2 : 0 < G a
    · have ma : a ∈ T := (hmem a).mpr ⟨ha, g2⟩
      rw [← et] at ma
      rcases List.mem_append.mp ma with q | q
      · exact absurd q g
      · rcases List.mem_cons.mp q with q | q
        · rw [q]
          omega
        · rcases p4 a q with k | k
          · omega
          · omega
    · omega
theorem yGl_end {G : Nat → Int} {N n : Nat} (h : (yRnk G N).length ≤ n) : ∀ a : Nat, a < N → yGl G (yRnk G N) n a ≤ 0 := fun a ha => by
  unfold yGl
  rw [List.take_of_length_le h]
  by_cases g : a ∈ yRnk G N
  · rw [if_pos g]
    exact Int.le_refl 0
  · rw [if_neg g]
    apply Classical.byContradiction
    intro q
    exact g ((yRnk_mem N).mpr ⟨ha, by omega⟩)
theorem yGl_s {G : Nat → Int} {T : List Nat} {n a : Nat} (h : n < T.length) : yGl G T (n + 1) a = if a = T.getD n 0 then 0 else yGl G T n a := by
  have e : T.take (n + 1) = T.take n ++ [T.getD n 0] := by
    rw [List.getD_eq_getElem?_getD, List.getElem?_eq_getElem h, List.take_succ, List.getElem?_eq_getElem h]
    rfl
  unfold yGl
  rw [e]
  by_cases g : a = T.getD n 0
  · rw [if_pos g, if_pos (List.mem_append_right _ (by rw [g]; exact List.mem_singleton.mpr rfl))]
  · rw [if_neg g]
    by_cases g2 : a ∈ T.take n
    · rw [if_pos g2, if_pos (List.mem_append_left _ g2)]
    · rw [if_neg g2, if_neg fun q => ?_]
      rcases List.mem_append.mp q with q | q
      · exact g2 q
      · exact g (List.mem_singleton.mp q)
def yPk9 (x : Nat) (j : Int) : Prop := yPlv 1 x j ∨ x = 113
theorem yPk9_hold : ∀ x j, yHoldR x j → ¬ yPk9 x j := fun x j h q => by
  unfold yHoldR at h
  unfold yPk9 yPlv yS8 at q
  omega
theorem yPk9_fr {m m' : Nat → Int → Int} (h : yFq yPk9 m m') : yFr 98 117 m m' := yFr_of h fun x j q => by
  unfold yPk9 yPlv yS8 at q
  omega
theorem yPk9_1 {m m' : Nat → Int → Int} (h : yFq (yPlv 1) m m') : yFq yPk9 m m' := fun x j hx => h x j fun q => hx (.inl q)
section ZR
variable {L : Nat} {m : Nat → Int → Int} (d : Nat) {w : Int → List Int} {b : Int → Int} {c n e : Int} {W F : Int → Int} {Z : Int → List Int}
theorem yRl_1 {b1 : Int → Int} {c1 : Int} {m m' : Nat → Int → Int} (h : yRl m 1 b1 c1) (hf : yFq (yPlv 2) m m') : yRl m' 1 b1 c1 := yRl_fr h hf (fun j j1 j2 q => by unfold yPlv yS8 at q; omega) (fun q => by unfold yPlv yS8 at q; omega)
theorem yRm_1 {xs : List Int} {m m' : Nat → Int → Int} (h : yRm m 1 xs) (hf : yFq (yPlv 2) m m') : yRm m' 1 xs := yRm_fq h hf (fun j j1 j2 q => by unfold yPlv yS8 at q; omega) (fun q => by unfold yPlv yS8 at q; omega)
theorem yW_2 {m m' : Nat → Int → Int} (h : ∀ i : Int, 0 ≤ i → i < 6 → m 111 i = W i ∧ 0 ≤ W i ∧ W i ≤ 9) (hf : yFq (yPlv 1) m m') : ∀ i : Int, 0 ≤ i → i < 6 → m' 111 i = W i ∧ 0 ≤ W i ∧ W i ≤ 9 := fun i i1 i2 => by
  rw [hf 111 i (by unfold yPlv yS8; omega)]
  exact h i i1 i2
theorem yr_277 (h : yRs m w b c n e W F Z) (v i fee what : Int) : ∃ m', zmD zP (d + 8) 277 [zr 98, zi v, zi i, zi fee, zi what] (zW L m) = some (some (zl (yGaV b c W v i fee what)), zW L m') ∧ yFr 98 117 m m' ∧ yRs m' w b c n e W F Z := by
  unfold yGaV
  have bad2 : ∃ m', zmE (zmD zP (d+7)) zc_277 (26, [some (zr 98), some (zi v), some (zi i), some (zi fee), some (zi what), none], [], zW L m) = some (some (zl (yNo (-2))), zW L m') ∧ yFr 98 117 m m' ∧ yRs m' w b c n e W F Z := ⟨m, by rw [zb_277_26, zk_280, zbs, zmG_v, zb_277_31]; rfl, yFr_rfl, h⟩
  rw [zen_277, zb_277_0, zk_244, zbs, zmG_v, zb_277_4]
  by_cases g : 0 ≤ v ∧ v < 4096
  · rw [if_neg (fun q => zB_z.mp q (by omega))]
    by_cases g1 : i < 0
    · rw [if_pos g1, if_neg (c := (0 ≤ v ∧ v < 4096) ∧ 0 ≤ i ∧ (0 ≤ fee ∧ fee ≤ 99) ∧ (0 ≤ what ∧ what ≤ 1)) (by omega)]
      exact bad2
    · rw [if_neg g1, zk_278, zbs, zmG_v, zb_277_15]
      by_cases gf : 0 ≤ fee ∧ fee ≤ 99
      · rw [if_neg (fun q => zB_z.mp q gf), zk_279, zbs, zmG_v, zb_277_23]
        by_cases gw : 0 ≤ what ∧ what ≤ 1
        · rw [if_neg (fun q => zB_z.mp q gw), if_pos (c := (0 ≤ v ∧ v < 4096) ∧ 0 ≤ i ∧ (0 ≤ fee ∧ fee ≤ 99) ∧ (0 ≤ what ∧ what ≤ 1)) ⟨g, by omega, gf, gw⟩, zcv_98, yr_272 (d + 1) h g, zbs, zmG_v, zb_277_37]
          by_cases g2 : yT (v ∈ yMv b c) = 0
          · rw [if_pos g2, if_pos g2, zk_280, zbs, zmG_v, zb_277_45]
            exact ⟨m, rfl, yFr_rfl, h⟩
          · have hv : v ∈ yMv b c := Classical.byContradiction fun q => g2 (yT_neg q)
            obtain ⟨M, r1, r2, r3, r4⟩ := yr_273 (L := L) d h hv
            have hle := r4.2.1
            rw [if_neg g2, if_neg g2, zcv_98, r1, zbs, zmG_n, zb_277_51, zgr_98_12, zbs, zai_108 (by decide) (by decide), zbs, r4.1]
            by_cases g3 : i < (yMv (yBv b v) (8 - c)).length
            · have hu : (yMv (yBv b v) (8 - c)).getD i.toNat 0 ∈ yMv (yBv b v) (8 - c) := yMem_get.mpr ⟨i.toNat, by omega, rfl⟩
              obtain ⟨M2, s1, s2, s3, s4⟩ := yr_276 (L := L) d r3 hu
              have F := yFq_tr r2 (yPlv_le (by decide) s2)
              have a1 := yRl_1 r3 s2
              have a2 := yRm_1 r4 s2
              have a3 := yW_2 (yRs_W h) F
              have e1 := yRm_i r4 (i := i.toNat) (by omega)
              have e2 := yRm_i a2 (i := i.toNat) (by omega)
              rw [show (512 : Int) * 1 + (i.toNat : Nat) = 512 + i by omega] at e1 e2
              rw [if_pos g3, if_pos g3, zgr_98_11, zbs, w32_of (z := 512 + i) (by omega) (by omega), zai_107 (by omega) (by omega), zbs, e1, zcv_98, s1, zbs, zmG_n, zb_277_81, zgi_98, zbs, s3]
              by_cases g4 : yRaa (yBv b v) (8 - c) ((yMv (yBv b v) (8 - c)).getD i.toNat 0) = -1
              · rw [if_pos g4, if_pos g4, zk_280, zbs, zmG_v, zb_277_94]
                exact ⟨M2, rfl, yPlv_fr F, yRs_fr h F yPlv_hold⟩
              · obtain ⟨M3, t1, t2⟩ := yr_282 (L := L) (d + 3) a1 a2 a3 hu fee gf s4
                have F3 := yFq_tr F (yPlv_s t2)
                have hok := yPu_ok r3.1
                have hww : ∀ v' ∈ yMv (yBv b v) (8 - c), 0 ≤ yWm W (yBv b v) v' ∧ yWm W (yBv b v) v' ≤ 9 := fun v' hv' => by
                  obtain ⟨v1, v2, v3⟩ := hok v' hv'
                  exact (a3 _ (by omega) (by omega)).2
                have hall := ySumL_in (f := yWm W (yBv b v)) (c := 9) (yMv (yBv b v) (8 - c)) hww
                have hns := yNs_in (b := yBv b v) (xs := yMv (yBv b v) (8 - c)) (v := (yMv (yBv b v) (8 - c)).getD i.toNat 0)
                have p3 : -40000 ≤ yGu (yBv b v) (8 - c) W fee ((yMv (yBv b v) (8 - c)).getD i.toNat 0) ∧ yGu (yBv b v) (8 - c) W fee ((yMv (yBv b v) (8 - c)).getD i.toNat 0) ≤ 40000 := (yGn_in (all := ySumL (yWm W (yBv b v)) (yMv (yBv b v) (8 - c))) (s1 := yNs (yBv b v) (yMv (yBv b v) (8 - c)) ((yMv (yBv b v) (8 - c)).getD i.toNat 0)) (fee := fee) (by omega) (hww _ hu) (by omega) yRg_in gf).2.2
                rw [if_neg g4, if_neg g4, zcv_98, yr_281 (d + 5) a1 a2 a3, zbs, zmG_v, zb_277_99, zgr_98_11, zbs, w32_of (z := 512 + i) (by omega) (by omega), zai_107 (by omega) (by omega), zbs, e2, zcv_98, t1, zbs, zmG_v, zb_277_118]
                refine ⟨M3, ?_, yPlv_fr F3, yRs_fr h F3 yPlv_hold⟩
                generalize yGu (yBv b v) (8 - c) W fee ((yMv (yBv b v) (8 - c)).getD i.toNat 0) = A at *
                generalize ySumL (yWm W (yBv b v)) (yMv (yBv b v) (8 - c)) = all at *
                unfold yGq
                by_cases g5 : all = 0
                · have e0 : yGd0 A 1 = 1 := by
                    unfold yGd0
                    rw [show (1 : Int).toNat = 1 from rfl, Nat.gcd_one_right]
                    rfl
                  rw [if_pos g5, if_pos g5, zb_277_131, zk_283 (d + 6) A 1 (by omega) (by decide), zbs, zmG_v, zb_277_136, e0]
                  by_cases g6 : what = 0
                  · rw [if_pos g6, Int.tdiv_one]
                  · rw [if_neg g6, Int.tdiv_one]
                · rw [if_neg g5, if_neg g5, zb_277_131, zk_283 (d + 6) A all (by omega) (by omega), zbs, zmG_v, zb_277_136]
                  by_cases g6 : what = 0
                  · rw [if_pos g6, if_pos g6]
                  · rw [if_neg g6, if_neg g6]
            · rw [if_neg g3, if_neg g3, zk_280, zbs, zmG_v, zb_277_66]
              exact ⟨M, rfl, yPlv_fr r2, yRs_fr h r2 yPlv_hold⟩
        · rw [if_pos (zB_z.mpr gw), if_neg (c := (0 ≤ v ∧ v < 4096) ∧ 0 ≤ i ∧ (0 ≤ fee ∧ fee ≤ 99) ∧ (0 ≤ what ∧ what ≤ 1)) (fun q => gw q.2.2.2)]
          exact bad2
      · rw [if_pos (zB_z.mpr gf), if_neg (c := (0 ≤ v ∧ v < 4096) ∧ 0 ≤ i ∧ (0 ≤ fee ∧ fee ≤ 99) ∧ (0 ≤ what ∧ what ≤ 1)) (fun q => gf q.2.2.1)]
        exact bad2
  · rw [if_pos (zB_z.mpr (by omega)), if_neg (c := (0 ≤ v ∧ v < 4096) ∧ 0 ≤ i ∧ (0 ≤ fee ∧ fee ≤ 99) ∧ (0 ≤ what ∧ what ≤ 1)) (fun q => g q.1)]
    exact bad2
end ZR
