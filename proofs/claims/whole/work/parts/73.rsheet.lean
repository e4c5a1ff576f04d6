/-! get, copy, read, write, weight of the reference -/
section ZR
variable {L : Nat} {m m' : Nat → Int → Int} (d : Nat) {w : Int → List Int} {b : Int → Int} {c n e : Int} {W F : Int → Int} {Z : Int → List Int}
theorem yr_210 (h : yRs m w b c n e W F Z) (hz : yFz F Z) (s form i : Int) : ∃ m', zmD zP (d + 3) 210 [zr 98, zi s, zi form, zi i] (zW L m) = some (some (zi (if (0 ≤ s ∧ s < 4) ∧ (0 ≤ form ∧ form ≤ 2) ∧ yLk (F s) form i (Z s) = 0 then (Z s).getD i.toNat 0 else -2147483648)), zW L m') ∧ yFr 98 117 m m' ∧ (¬ ((0 ≤ s ∧ s < 4) ∧ (0 ≤ form ∧ form ≤ 2)) → yRs m' w b c n e W F Z) ∧ ((0 ≤ s ∧ s < 4) ∧ (0 ≤ form ∧ form ≤ 2) → (yLk (F s) form i (Z s) ≠ 0 → yRs m' w b c n (yLk (F s) form i (Z s)) W F Z) ∧ (yLk (F s) form i (Z s) = 0 → yRs m' w b c n e W F Z)) := by
  rw [zen_210, zb_210_0, zk_204, zbs, zmG_v, zb_210_4]
  by_cases g0 : 0 ≤ s ∧ s ≤ 3
  · have g : 0 ≤ s ∧ s < 4 := ⟨g0.1, by omega⟩
    rw [if_neg (fun q => zB_z.mp q g0), zk_201, zbs, zmG_v, zb_210_16]
    by_cases g2 : 0 ≤ form ∧ form ≤ 2
    · have gg : (0 ≤ s ∧ s < 4) ∧ (0 ≤ form ∧ form ≤ 2) := ⟨g, g2⟩
      obtain ⟨M, r1, r2, r3, r4⟩ := yr_208 (L := L) d h hz s form i g
      rw [if_neg (fun q => zB_z.mp q g2), zcv_98, r1, zbs, zmG_v, zb_210_26]
      by_cases g3 : yLk (F s) form i (Z s) = 0
      · obtain ⟨k1, k2⟩ := yRs_sh h g
        have kz := hz s g
        have hk : F s = form ∧ 0 ≤ i ∧ i < (Z s).length := by
          unfold yLk at g3
          split at g3
          · exact absurd g3 (by decide)
          · split at g3
            · exact absurd g3 (by decide)
            · split at g3
              · rename_i q0 q1 q2
                exact ⟨Classical.byContradiction q1, q2⟩
              · exact absurd g3 (by decide)
        have kf : F s ≠ -1 := by omega
        obtain ⟨k3, k4⟩ := k2 kf
        have hl := kz.2 kf
        have e1 := k4 i.toNat (by omega)
        rw [show ((i.toNat : Nat) : Int) = i by omega] at e1
        rw [r3 g3, if_pos g3, if_pos rfl, if_pos ⟨g, g2, g3⟩, zgr_98_2, zbs, w32_of (z := 60 * s) (by omega) (by omega), w32_of (z := 60 * s + i) (by omega) (by omega), zai_101 (by omega) (by omega), zbs, e1]
        exact ⟨m, rfl, yFr_rfl, fun q => absurd gg q, fun _ => ⟨fun q => absurd g3 q, fun _ => h⟩⟩
      · have hin := yLk_in (f := F s) (form := form) (i := i) (z := Z s)
        rw [if_neg g3, if_neg (by omega), if_neg (fun q => g3 q.2.2), zb_210_29]
        exact ⟨M, rfl, r2, fun q => absurd gg q, fun _ => ⟨fun _ => r4 g3, fun q => absurd q g3⟩⟩
    · rw [if_pos (zB_z.mpr g2), if_neg (fun q => g2 q.2.1), zb_210_29]
      exact ⟨m, rfl, yFr_rfl, fun _ => h, fun q => absurd q.2 g2⟩
  · rw [if_pos (zB_z.mpr g0), if_neg (by omega), zb_210_29]
    exact ⟨m, rfl, yFr_rfl, fun _ => h, fun q => absurd q.1 (by omega)⟩
theorem yr_266 (h : yRs m w b c n e W F Z) (i v : Int) : ∃ m', zmD zP (d + 2) 266 [zr 98, zi i, zi v] (zW L m) = some (some (zi (if (0 ≤ i ∧ i ≤ 5) ∧ 0 ≤ v ∧ v ≤ 9 then W i else -2)), zW L m') ∧ yFr 98 117 m m' ∧ (¬ ((0 ≤ i ∧ i ≤ 5) ∧ 0 ≤ v ∧ v ≤ 9) → yRs m' w b c n e W F Z) ∧ ((0 ≤ i ∧ i ≤ 5) ∧ 0 ≤ v ∧ v ≤ 9 → yRs m' w b c n e (yUi W i v) F Z) := by
  rw [zen_266, zb_266_0, zk_201, zbs, zmG_v, zb_266_9]
  by_cases g : 0 ≤ i ∧ i ≤ 5
  · rw [if_neg (fun q => zB_z.mp q g), zk_201, zbs, zmG_v, zb_266_21]
    by_cases g2 : 0 ≤ v ∧ v ≤ 9
    · have hw := h.2.2.2.1 i g.1 (by omega)
      rw [if_neg (fun q => zB_z.mp q g2), if_pos (show (0 ≤ i ∧ i ≤ 5) ∧ 0 ≤ v ∧ v ≤ 9 from ⟨g, g2⟩), zgr_98_22, zbs, zai_111 g.1 (by omega), zbs, zbs, zsi_111 g.1 (by omega), zbs, hw.1]
      have kx : ∀ x, x ≠ 111 → zup m 111 i v x = m x := fun x x1 => by
        funext j
        rw [zup_ne x1]
      refine ⟨_, rfl, fun x hx => kx x (by omega), fun q => absurd ⟨g, g2⟩ q, fun _ => ?_⟩
      obtain ⟨a0, ⟨b1, b2, b3⟩, c0, f1, g0⟩ := h
      have sh : ∀ s f z, yShR m s f z → yShR (zup m 111 i v) s f z := fun s f z h => by
        unfold yShR
        rw [kx 99 (by decide), kx 100 (by decide), kx 101 (by decide)]
        exact h
      refine ⟨⟨yRt_c a0.1 (kx 103 (by decide)) (kx 104 (by decide)), yRt_c a0.2.1 (kx 103 (by decide)) (kx 104 (by decide)), yRt_c a0.2.2 (kx 103 (by decide)) (kx 104 (by decide))⟩, ⟨b1, by unfold zbd; rw [kx 105 (by decide)]; exact b2, by rw [kx 106 (by decide)]; exact b3⟩, by rw [kx 98 (by decide)]; exact c0, fun j j1 j2 => ?_, sh _ _ _ g0.1, sh _ _ _ g0.2.1, sh _ _ _ g0.2.2.1, sh _ _ _ g0.2.2.2⟩
      unfold yUi
      by_cases gj : j = i
      · rw [if_pos gj, gj, zup_self]
        exact ⟨rfl, g2⟩
      · rw [if_neg gj, zup_ne2 gj]
        exact f1 j j1 j2
    · rw [if_pos (zB_z.mpr g2), if_neg (fun q => g2 q.2)]
      exact ⟨m, rfl, yFr_rfl, fun _ => h, fun q => absurd q.2 g2⟩
  · rw [if_pos (zB_z.mpr g), if_neg (fun q => g q.1)]
    exact ⟨m, rfl, yFr_rfl, fun _ => h, fun q => absurd q.1 g⟩
theorem yr_249 (h : yRs m w b c n e W F Z) (hz : yFz F Z) (hn : 0 ≤ n ∧ n ≤ 1000000000) (s : Int) : ∃ m', zmD zP (d + 7) 249 [zr 98, zi s] (zW L m) = some (some (zi (if 0 ≤ s ∧ s < 4 then (if F s = -1 then -11 else (yRdS (Z s) b c).1) else -2)), zW L m') ∧ yFr 98 117 m m' ∧ (¬ (0 ≤ s ∧ s < 4) → yRs m' w b c n e W F Z) ∧ (0 ≤ s ∧ s < 4 → (F s = -1 → yRs m' w b c n 1 W F Z) ∧ (F s ≠ -1 → yRs m' w (yRdS (Z s) b c).2.1 (yRdS (Z s) b c).2.2 (n + (yRdS (Z s) b c).1) e W F Z)) := by
  rw [zen_249, zb_249_0, zk_204, zbs, zmG_v, zb_249_4]
  by_cases g0 : 0 ≤ s ∧ s ≤ 3
  · have g : 0 ≤ s ∧ s < 4 := ⟨g0.1, by omega⟩
    have kz := hz s g
    rw [if_neg (fun q => zB_z.mp q g0), if_pos g, zgr_98_0, zbs, zai_99 g.1 (by omega), zbs, (yRs_sh h g).1]
    by_cases kf : F s = -1
    · rw [if_pos (by omega), if_pos kf, zcv_98, zk_205 (d + 5) 1 (by decide) (by decide), zbs, zmG_v, zb_249_24]
      exact ⟨_, rfl, yFr_98, fun q => absurd g q, fun _ => ⟨fun _ => yRs_found h 1, fun q => absurd kf q⟩⟩
    · have hl := kz.2 kf
      rw [if_neg (by omega), if_neg kf]
      suffices go : ∀ k i : Nat, i + k = (Z s).length → ∀ (M : Nat → Int → Int) (b1 : Int → Int) (c1 n1 : Int), yFr 98 117 m M → yRs M w b1 c1 n1 e W F Z → n1 = n + i → ∃ m', zmE (zmD zP (d+6)) zc_249 (27, [some (zr 98), some (zi s), some (zi i)], [], zW L M) = some (some (zi (i + (yRdS ((Z s).drop i) b1 c1).1)), zW L m') ∧ yFr 98 117 m m' ∧ yRs m' w (yRdS ((Z s).drop i) b1 c1).2.1 (yRdS ((Z s).drop i) b1 c1).2.2 (n1 + (yRdS ((Z s).drop i) b1 c1).1) e W F Z by
        obtain ⟨m', r1, r2, r3⟩ := go (Z s).length 0 (by omega) m b c n yFr_rfl h (by rw [Int.natCast_zero, Int.add_zero])
        rw [List.drop_zero, Int.natCast_zero, Int.zero_add] at r1
        rw [List.drop_zero] at r3
        exact ⟨m', r1, r2, fun q => absurd g q, fun _ => ⟨fun q => absurd q kf, fun _ => r3⟩⟩
      intro k
      induction k with
      | zero =>
        intro i hi M b1 c1 n1 hF hC hn1
        obtain ⟨q1, q2⟩ := yRs_sh hC g
        obtain ⟨q3, q4⟩ := q2 kf
        rw [zb_249_27, zgr_98_1, zbs, zai_100 g.1 (by omega), zbs, q3, if_neg (by omega), List.drop_eq_nil_of_le (by omega)]
        refine ⟨M, ?_, hF, ?_⟩
        · show some (some (zi i), _) = some (some (zi ((i : Int) + 0)), _)
          rw [Int.add_zero]
        · show yRs M w b1 c1 (n1 + 0) e W F Z
          rw [Int.add_zero]
          exact hC
      | succ k ih =>
        intro i hi M b1 c1 n1 hF hC hn1
        obtain ⟨q1, q2⟩ := yRs_sh hC g
        obtain ⟨q3, q4⟩ := q2 kf
        obtain ⟨M', r1, r2, r3, r4⟩ := yr_247 (L := L) (m := M) d hC ⟨by omega, by omega⟩ ((Z s).getD i 0)
        rw [zb_249_27, zgr_98_1, zbs, zai_100 g.1 (by omega), zbs, q3, if_pos (by omega), zgr_98_2, zbs, w32_of (z := 60 * s) (by omega) (by omega), w32_of (z := 60 * s + i) (by omega) (by omega), zai_101 (by omega) (by omega), zbs, q4 i (by omega), zcv_98, r1, zbs, zmG_v, zb_249_52, ydrop (w := Z s) (i := i) (by omega), yRdS_cons]
        by_cases g2 : (Z s).getD i 0 ∈ yMv b1 c1
        · obtain ⟨m', t1, t2, t3⟩ := ih (i + 1) (by omega) M' _ _ _ (yFr_tr hF r2) (r4 g2) (by rw [Int.natCast_succ]; omega)
          have gv := (yMv_go g2).1
          rw [yT_pos g2, if_pos gv, if_neg (c := (1 : Int) = 0) (by decide), if_pos (by omega), if_neg (c := (1 : Int) = 0) (by decide), w32_of (by omega) (by omega)]
          rw [Int.natCast_succ] at t1
          refine ⟨m', ?_, t2, ?_⟩
          · rw [t1]
            refine congrArg (fun z => some (some (zi z), zW L m')) ?_
            show _ = (i : Int) + ((yRdS ((Z s).drop (i + 1)) (yPut b1 ((Z s).getD i 0 / 64) ((Z s).getD i 0 % 64)) (8 - c1)).1 + 1)
            omega
          · have e2 : n1 + ((yRdS ((Z s).drop (i + 1)) (yPut b1 ((Z s).getD i 0 / 64) ((Z s).getD i 0 % 64)) (8 - c1)).1 + 1) = n1 + 1 + (yRdS ((Z s).drop (i + 1)) (yPut b1 ((Z s).getD i 0 / 64) ((Z s).getD i 0 % 64)) (8 - c1)).1 := by omega
            show yRs m' w _ _ (n1 + ((yRdS ((Z s).drop (i + 1)) (yPut b1 ((Z s).getD i 0 / 64) ((Z s).getD i 0 % 64)) (8 - c1)).1 + 1)) e W F Z
            rw [e2]
            exact t3
        · have eN : ¬ 0 < (if 0 ≤ (Z s).getD i 0 ∧ (Z s).getD i 0 < 4096 then (if yT ((Z s).getD i 0 ∈ yMv b1 c1) = 0 then -3 else n1 + 1) else -2) := by
            rw [yT_neg g2, if_pos rfl]
            split <;> decide
          rw [if_neg eN, yT_neg g2, if_pos rfl]
          refine ⟨M', ?_, yFr_tr hF r2, ?_⟩
          · show some (some (zi i), _) = some (some (zi ((i : Int) + 0)), _)
            rw [Int.add_zero]
          · show yRs M' w b1 c1 (n1 + 0) e W F Z
            rw [Int.add_zero]
            exact r3 g2
  · rw [if_pos (zB_z.mpr g0), if_neg (by omega)]
    exact ⟨m, rfl, yFr_rfl, fun _ => h, fun q => absurd q (by omega)⟩
theorem yr_301 (h : yRs m w b c n e W F Z) (hz : yFz F Z) (s : Int) : ∃ m', zmD zP (d + 7) 301 [zr 98, zi s] (zW L m) = some (some (zi (if 0 ≤ s ∧ s < 4 then (if F s = -1 then -11 else if (yMv b c).length < (Z s).length then (yMv b c).length else (Z s).length) else -2)), zW L m') ∧ yFr 98 117 m m' ∧ (¬ (0 ≤ s ∧ s < 4) → yRs m' w b c n e W F Z) ∧ (0 ≤ s ∧ s < 4 → (F s = -1 → yRs m' w b c n 1 W F Z) ∧ (F s ≠ -1 → yRs m' w b c n e W F (yUp Z s (yWrt (Z s) (yMv b c) (F s))))) := by
  rw [zen_301, zb_301_0, zk_204, zbs, zmG_v, zb_301_4]
  by_cases g0 : 0 ≤ s ∧ s ≤ 3
  · have g : 0 ≤ s ∧ s < 4 := ⟨g0.1, by omega⟩
    have kz := hz s g
    obtain ⟨k1, k2⟩ := yRs_sh h g
    rw [if_neg (fun q => zB_z.mp q g0), if_pos g, zgr_98_0, zbs, zai_99 g.1 (by omega), zbs, k1]
    by_cases kf : F s = -1
    · rw [if_pos (by omega), if_pos kf, zcv_98, zk_205 (d + 5) 1 (by decide) (by decide), zbs, zmG_v, zb_301_24]
      exact ⟨_, rfl, yFr_98, fun q => absurd g q, fun _ => ⟨fun _ => yRs_found h 1, fun q => absurd kf q⟩⟩
    · have hl := kz.2 kf
      obtain ⟨M, r1, r2, r3, r4⟩ := yr_now (L := L) d h
      obtain ⟨q1, q2⟩ := yRs_sh r3 g
      obtain ⟨q3, q4⟩ := q2 kf
      obtain ⟨m1, m2, m3⟩ := r4
      have e60 : (if ((Z s).length : Int) < ((yMv b c).length : Int) then zmE (zmD zP (d+6)) zc_301 (60, [some (zr 98), some (zi s), none, none], [zi ((Z s).length)], zW L M) else zmE (zmD zP (d+6)) zc_301 (60, [some (zr 98), some (zi s), none, none], [zi ((yMv b c).length)], zW L M)) = zmE (zmD zP (d+6)) zc_301 (60, [some (zr 98), some (zi s), none, none], [zi (((if (yMv b c).length < (Z s).length then (yMv b c).length else (Z s).length : Nat) : Int))], zW L M) := by
        by_cases k : (yMv b c).length < (Z s).length
        · rw [if_neg (by omega), if_pos k]
        · rw [if_neg k]
          by_cases k3 : (Z s).length < (yMv b c).length
          · rw [if_pos (by omega)]
          · rw [if_neg (by omega), show (yMv b c).length = (Z s).length by omega]
      have eR2 : (if (yMv b c).length < (Z s).length then ((yMv b c).length : Int) else ((Z s).length : Int)) = ((if (yMv b c).length < (Z s).length then (yMv b c).length else (Z s).length : Nat) : Int) := by
        split <;> rfl
      rw [if_neg (by omega), if_neg kf, zcv_98, r1, zbs, zmG_n, zb_301_30, zgr_98_1, zbs, zai_100 g.1 (by omega), zbs, q3, zgr_98_12, zbs, zai_108 (by decide) (by decide), zbs, m1, zbs, zai_100 g.1 (by omega), zbs, q3, zbs, zai_108 (by decide) (by decide), zbs, m1, e60, zb_301_60, eR2]
      generalize hR : (if (yMv b c).length < (Z s).length then (yMv b c).length else (Z s).length) = R
      have hR2 : R ≤ (yMv b c).length ∧ R ≤ (Z s).length ∧ (R = (yMv b c).length ∨ R = (Z s).length) := by rw [← hR]; split <;> omega
      suffices go : ∀ k i : Nat, i + k = R → ∀ M2 : Nat → Int → Int, (∀ x, x ≠ 101 → M2 x = M x) → (∀ j, ¬ (60 * s ≤ j ∧ j < 60 * s + 60) → M2 101 j = M 101 j) → (∀ j : Nat, j < (Z s).length → M2 101 (60 * s + j) = if j < i then yCut (F s) ((yMv b c).getD j 0) else (Z s).getD j 0) → ∃ m', zmE (zmD zP (d+6)) zc_301 (63, [some (zr 98), some (zi s), some (zi R), some (zi i)], [], zW L M2) = some (some (zi R), zW L m') ∧ yFr 98 117 m m' ∧ yRs m' w b c n e W F (yUp Z s (yWrt (Z s) (yMv b c) (F s))) by
        obtain ⟨m', t1, t2, t3⟩ := go R 0 (by omega) M (fun _ _ => rfl) (fun _ _ => rfl) (fun j hj => by rw [if_neg (Nat.not_lt_zero j)]; exact q4 j hj)
        exact ⟨m', t1, t2, fun q => absurd g q, fun _ => ⟨fun q => absurd q kf, fun _ => t3⟩⟩
      intro k
      induction k with
      | zero =>
        intro i hi M2 hx h101 hz2
        have hF : yFr 98 117 m M2 := fun x hx2 => by rw [hx x (by omega), yPm_fr r2 x hx2]
        rw [zb_301_63, if_neg (by omega)]
        refine ⟨M2, rfl, hF, ?_⟩
        have q := yRs_mks (m' := M2) (s := s) (f := F s) (z := yWrt (Z s) (yMv b c) (F s)) (e' := e) r3 g (fun i hi => (hz i hi).2) ⟨by rw [hx 99 (by decide)]; exact q1, fun _ => ⟨?_, fun j hj => ?_⟩⟩ (fun x _ _ _ x3 _ _ _ => hx x x3) (by rw [hx 98 (by decide)]) (by rw [hx 98 (by decide)]; exact r3.2.2.1.2) (fun j _ => ⟨by rw [hx 99 (by decide)], by rw [hx 100 (by decide)]⟩) h101
        · rw [yUi_same] at q
          exact q
        · rw [hx 100 (by decide), q3]
          unfold yWrt
          rw [yRow2_len]
        · unfold yWrt at hj ⊢
          rw [yRow2_len] at hj
          rw [yRow2_get hj, hz2 j hj]
          by_cases gj : j < i
          · rw [if_pos gj, if_pos (by omega)]
          · rw [if_neg gj, if_neg (by omega)]
      | succ k ih =>
        intro i hi M2 hx h101 hz2
        have ec : M2 107 i = (yMv b c).getD i 0 := by
          rw [hx 107 (by decide)]
          have := m3 i (by omega)
          rw [show (512 : Int) * 0 + (i : Int) = i by omega] at this
          exact this
        rw [zb_301_63, if_pos (by omega), zgr_98_2, zbs, zgr_98_0, zbs, zai_99 g.1 (by omega), zbs, hx 99 (by decide), q1, zgr_98_11, zbs, zai_107 (by omega) (by omega), zbs, ec, zk_209, zbs, zmG_v, zb_301_93, w32_of (z := 60 * s) (by omega) (by omega), w32_of (z := 60 * s + i) (by omega) (by omega), zsi_101 (by omega) (by omega), zbs, w32_of (by omega) (by omega)]
        obtain ⟨m', t1, t2, t3⟩ := ih (i + 1) (by omega) (zup M2 101 (60 * s + i) (yCut (F s) ((yMv b c).getD i 0))) (fun x x1 => by
          funext j
          rw [zup_ne x1, hx x x1]) (fun j hj => by rw [zup_ne2 (by omega)]; exact h101 j hj) (fun j hj => by
          by_cases gj : j = i
          · rw [gj, zup_self, if_pos (Nat.lt_succ_self i)]
          · rw [zup_ne2 (by omega), hz2 j hj]
            by_cases gi : j < i
            · rw [if_pos gi, if_pos (by omega)]
            · rw [if_neg gi, if_neg (by omega)])
        rw [Int.natCast_succ] at t1
        exact ⟨m', t1, t2, t3⟩
  · rw [if_pos (zB_z.mpr g0), if_neg (by omega)]
    exact ⟨m, rfl, yFr_rfl, fun _ => h, fun q => absurd q (by omega)⟩
theorem yr_211 (h : yRs m w b c n e W F Z) (hz : yFz F Z) (s i t j k : Int) (hi : yInt i) (hj : yInt j) (hk : yInt k) : ∃ m', zmD zP (d + 3) 211 [zr 98, zi s, zi i, zi t, zi j, zi k] (zW L m) = some (some (zi (if (0 ≤ s ∧ s < 4) ∧ (0 ≤ t ∧ t < 4) then (if yCk (F s) (F t) i j k (Z s) (Z t) = 0 then 1 else -10 - yCk (F s) (F t) i j k (Z s) (Z t)) else -2)), zW L m') ∧ yFr 98 117 m m' ∧ (¬ ((0 ≤ s ∧ s < 4) ∧ (0 ≤ t ∧ t < 4)) → yRs m' w b c n e W F Z) ∧ ((0 ≤ s ∧ s < 4) ∧ (0 ≤ t ∧ t < 4) → (yCk (F s) (F t) i j k (Z s) (Z t) ≠ 0 → yRs m' w b c n (yCk (F s) (F t) i j k (Z s) (Z t)) W F Z) ∧ (yCk (F s) (F t) i j k (Z s) (Z t) = 0 → yRs m' w b c n e W F (yUp Z t (yCpy (Z s) (Z t) i j k)))) := by
  unfold yInt at hi hj hk
  have found : ∀ (X : Int) (e0 : Option zmR), (0 ≤ s ∧ s < 4) ∧ (0 ≤ t ∧ t < 4) → yCk (F s) (F t) i j k (Z s) (Z t) = X → X ≠ 0 → e0 = some (some (zi (-10 - X)), zW L (zup m 98 4 X)) → ∃ m', e0 = some (some (zi (if (0 ≤ s ∧ s < 4) ∧ (0 ≤ t ∧ t < 4) then (if yCk (F s) (F t) i j k (Z s) (Z t) = 0 then 1 else -10 - yCk (F s) (F t) i j k (Z s) (Z t)) else -2)), zW L m') ∧ yFr 98 117 m m' ∧ (¬ ((0 ≤ s ∧ s < 4) ∧ (0 ≤ t ∧ t < 4)) → yRs m' w b c n e W F Z) ∧ ((0 ≤ s ∧ s < 4) ∧ (0 ≤ t ∧ t < 4) → (yCk (F s) (F t) i j k (Z s) (Z t) ≠ 0 → yRs m' w b c n (yCk (F s) (F t) i j k (Z s) (Z t)) W F Z) ∧ (yCk (F s) (F t) i j k (Z s) (Z t) = 0 → yRs m' w b c n e W F (yUp Z t (yCpy (Z s) (Z t) i j k)))) := fun X e0 gg hX hX0 he0 => by
    rw [hX, if_pos gg, if_neg hX0]
    exact ⟨_, he0, yFr_98, fun q => absurd gg q, fun _ => ⟨fun _ => yRs_found h X, fun q => absurd q hX0⟩⟩
  rw [zen_211, zb_211_0, zk_204, zbs, zmG_v, zb_211_4]
  by_cases g0 : 0 ≤ s ∧ s ≤ 3
  · have g : 0 ≤ s ∧ s < 4 := ⟨g0.1, by omega⟩
    rw [if_neg (fun q => zB_z.mp q g0), zk_204, zbs, zmG_v, zb_211_11]
    by_cases g1 : 0 ≤ t ∧ t ≤ 3
    · have g2 : 0 ≤ t ∧ t < 4 := ⟨g1.1, by omega⟩
      have gg : (0 ≤ s ∧ s < 4) ∧ (0 ≤ t ∧ t < 4) := ⟨g, g2⟩
      obtain ⟨k1, k2⟩ := yRs_sh h g
      obtain ⟨l1, l2⟩ := yRs_sh h g2
      have kz := hz s g
      have lz := hz t g2
      have e35 : zmE (zmD zP (d+2)) zc_211 (35, [some (zr 98), some (zi s), some (zi i), some (zi t), some (zi j), some (zi k), none], [], zW L m) = some (some (zi (-10 - 1)), zW L (zup m 98 4 1)) := by
        rw [zb_211_35, zcv_98, zk_205 (d + 1) 1 (by decide) (by decide), zbs, zmG_v, zb_211_40]
      have e111 : zmE (zmD zP (d+2)) zc_211 (111, [some (zr 98), some (zi s), some (zi i), some (zi t), some (zi j), some (zi k), none], [], zW L m) = some (some (zi (-10 - 2)), zW L (zup m 98 4 2)) := by
        rw [zb_211_111, zcv_98, zk_205 (d + 1) 2 (by decide) (by decide), zbs, zmG_v, zb_211_116]
      rw [if_neg (fun q => zB_z.mp q g1), zgr_98_0, zbs, zai_99 g.1 (by omega), zbs, k1]
      by_cases kf : F s = -1
      · rw [if_pos (by omega)]
        exact found 1 _ gg (by unfold yCk; rw [if_pos (.inl kf)]) (by decide) e35
      · rw [if_neg (by omega), zbs, zai_99 g2.1 (by omega), zbs, l1]
        by_cases kg : F t = -1
        · rw [if_pos (by omega)]
          exact found 1 _ gg (by unfold yCk; rw [if_pos (.inr kg)]) (by decide) e35
        · obtain ⟨k3, k4⟩ := k2 kf
          obtain ⟨l3, l4⟩ := l2 kg
          have kl := kz.2 kf
          have ll := lz.2 kg
          rw [if_neg (by omega), zbs, zai_99 g.1 (by omega), zbs, k1, zbs, zai_99 g2.1 (by omega), zbs, l1]
          by_cases g3 : F s = F t
          · have bad : ¬ ((0 ≤ i ∧ 0 ≤ k ∧ i + k ≤ (Z s).length) ∧ (0 ≤ j ∧ 0 ≤ k ∧ j + k ≤ (Z t).length)) → yCk (F s) (F t) i j k (Z s) (Z t) = 2 := fun q => by
              unfold yCk
              rw [if_neg (by omega), if_neg (fun q => q g3), if_neg q]
            rw [if_pos g3]
            by_cases i0 : i < 0
            · rw [if_pos i0]
              exact found 2 _ gg (bad (by omega)) (by decide) e111
            rw [if_neg i0]
            by_cases j0 : j < 0
            · rw [if_pos j0]
              exact found 2 _ gg (bad (by omega)) (by decide) e111
            rw [if_neg j0]
            by_cases k0 : k < 0
            · rw [if_pos k0]
              exact found 2 _ gg (bad (by omega)) (by decide) e111
            rw [if_neg k0, zgr_98_1, zbs, zai_100 g.1 (by omega), zbs, k3, w64_of (z := i + k) (by omega) (by omega), w64_of (z := j + k) (by omega) (by omega)]
            have cmp : ∀ a b : Int, (0 < (if a < b then (1 : Int) else if b = a then 0 else -1)) ↔ a < b := fun a b => by
              by_cases q : a < b
              · rw [if_pos q]
                exact ⟨fun _ => q, fun _ => by decide⟩
              · rw [if_neg q]
                refine ⟨fun q2 => ?_, fun q2 => absurd q2 q⟩
                split at q2 <;> exact absurd q2 (by decide)
            by_cases i1 : ((Z s).length : Int) < i + k
            · rw [if_pos ((cmp _ _).mpr i1)]
              exact found 2 _ gg (bad (by omega)) (by decide) e111
            rw [if_neg (fun q => i1 ((cmp _ _).mp q)), zbs, zai_100 g2.1 (by omega), zbs, l3]
            by_cases j1 : ((Z t).length : Int) < j + k
            · rw [if_pos ((cmp _ _).mpr j1)]
              exact found 2 _ gg (bad (by omega)) (by decide) e111
            rw [if_neg (fun q => j1 ((cmp _ _).mp q))]
            have hX : yCk (F s) (F t) i j k (Z s) (Z t) = 0 := by
              unfold yCk
              rw [if_neg (by omega), if_neg (fun q => q g3), if_pos (by omega)]
            rw [if_pos gg, hX, if_pos rfl]
            -- into moved, then out of it
            have l1' : ∀ n2 a : Nat, (a : Int) + n2 = k → ∀ M : Nat → Int → Int, (∀ x, x ≠ 102 → M x = m x) → (∀ y : Nat, y < a → M 102 y = (Z s).getD (i + y).toNat 0) → ∃ M2 : Nat → Int → Int, zmE (zmD zP (d+2)) zc_211 (120, [some (zr 98), some (zi s), some (zi i), some (zi t), some (zi j), some (zi k), some (zi a)], [], zW L M) = zmE (zmD zP (d+2)) zc_211 (157, [some (zr 98), some (zi s), some (zi i), some (zi t), some (zi j), some (zi k), some (zi 0)], [], zW L M2) ∧ (∀ x, x ≠ 102 → M2 x = m x) ∧ ∀ y : Nat, (y : Int) < k → M2 102 y = (Z s).getD (i + y).toNat 0 := by
              intro n2
              induction n2 with
              | zero =>
                intro a ha M hx hy
                rw [zb_211_120, if_neg (by omega)]
                exact ⟨M, rfl, hx, fun y hy2 => hy y (by omega)⟩
              | succ n2 ih =>
                intro a ha M hx hy
                have e1 := k4 (i + a).toNat (by omega)
                rw [show (((i + (a : Int)).toNat : Nat) : Int) = i + a by omega] at e1
                rw [zb_211_120, if_pos (by omega), zgr_98_3, zbs, zgr_98_2, zbs, w32_of (z := 60 * s) (by omega) (by omega), w32_of (z := 60 * s + i) (by omega) (by omega), w32_of (z := 60 * s + i + a) (by omega) (by omega), zai_101 (by omega) (by omega), zbs, zsi_102 (by omega) (by omega), zbs, w32_of (by omega) (by omega), hx 101 (by decide), show 60 * s + i + (a : Int) = 60 * s + (i + a) by omega, e1]
                have q := ih (a + 1) (by omega) (zup M 102 a ((Z s).getD (i + a).toNat 0)) (fun x x1 => by funext y; rw [zup_ne x1, hx x x1]) (fun y hy2 => by
                  by_cases gy : y = a
                  · rw [gy, zup_self]
                  · rw [zup_ne2 (by omega)]
                    exact hy y (by omega))
                rw [Int.natCast_succ] at q
                exact q
            obtain ⟨M2, a1, a2, a3⟩ := l1' k.toNat 0 (by omega) m (fun _ _ => rfl) (fun y hy => absurd hy (Nat.not_lt_zero y))
            have l2' : ∀ n2 a : Nat, (a : Int) + n2 = k → ∀ M : Nat → Int → Int, (∀ x, x ≠ 101 → M x = M2 x) → (∀ y, ¬ (60 * t ≤ y ∧ y < 60 * t + 60) → M 101 y = m 101 y) → (∀ y : Nat, y < (Z t).length → M 101 (60 * t + y) = if j ≤ y ∧ (y : Int) < j + a then (Z s).getD (i + (y - j)).toNat 0 else (Z t).getD y 0) → ∃ m', zmE (zmD zP (d+2)) zc_211 (157, [some (zr 98), some (zi s), some (zi i), some (zi t), some (zi j), some (zi k), some (zi a)], [], zW L M) = some (some (zi 1), zW L m') ∧ yFr 98 117 m m' ∧ yRs m' w b c n e W F (yUp Z t (yCpy (Z s) (Z t) i j k)) := by
              intro n2
              induction n2 with
              | zero =>
                intro a ha M hx h101 hy
                have kx : ∀ x, x ≠ 101 → x ≠ 102 → M x = m x := fun x x1 x2 => by rw [hx x x1, a2 x x2]
                rw [zb_211_157, if_neg (by omega)]
                refine ⟨M, rfl, fun x hx2 => kx x (by omega) (by omega), ?_⟩
                have q := yRs_mks (m' := M) (s := t) (f := F t) (z := yCpy (Z s) (Z t) i j k) (e' := e) h g2 (fun i hi => (hz i hi).2) ⟨by rw [kx 99 (by decide) (by decide)]; exact l1, fun _ => ⟨?_, fun y hy2 => ?_⟩⟩ (fun x _ _ _ x3 x4 _ _ => kx x x3 x4) (by rw [kx 98 (by decide) (by decide)]) (by rw [kx 98 (by decide) (by decide)]; exact h.2.2.1.2) (fun y _ => ⟨by rw [kx 99 (by decide) (by decide)], by rw [kx 100 (by decide) (by decide)]⟩) h101
                · rw [yUi_same] at q
                  exact q
                · rw [kx 100 (by decide) (by decide), l3]
                  unfold yCpy
                  rw [yRow2_len]
                · unfold yCpy at hy2 ⊢
                  rw [yRow2_len] at hy2
                  rw [yRow2_get hy2, hy y hy2, show j + (a : Int) = j + k by omega]
              | succ n2 ih =>
                intro a ha M hx h101 hy
                rw [zb_211_157, if_pos (by omega), zgr_98_2, zbs, zgr_98_3, zbs, zai_102 (by omega) (by omega), zbs, w32_of (z := 60 * t) (by omega) (by omega), w32_of (z := 60 * t + j) (by omega) (by omega), w32_of (z := 60 * t + j + a) (by omega) (by omega), zsi_101 (by omega) (by omega), zbs, w32_of (by omega) (by omega), hx 102 (by decide), a3 a (by omega)]
                have q := ih (a + 1) (by omega) (zup M 101 (60 * t + j + a) ((Z s).getD (i + a).toNat 0)) (fun x x1 => by funext y; rw [zup_ne x1, hx x x1]) (fun y hy2 => by
                  rw [zup_ne2 (by omega)]
                  exact h101 y hy2) (fun y hy2 => by
                  rw [Int.natCast_succ]
                  by_cases gy : (y : Int) = j + a
                  · rw [show 60 * t + (y : Int) = 60 * t + j + a by omega, zup_self, if_pos (by omega), show (y : Int) - j = a by omega]
                  · rw [zup_ne2 (by omega), hy y hy2]
                    by_cases gy2 : j ≤ y ∧ (y : Int) < j + a
                    · rw [if_pos gy2, if_pos (by omega)]
                    · rw [if_neg gy2, if_neg (by omega)])
                rw [Int.natCast_succ] at q
                exact q
            obtain ⟨m', t1, t2, t3⟩ := l2' k.toNat 0 (by omega) M2 (fun _ _ => rfl) (fun y _ => by rw [a2 101 (by decide)]) (fun y hy => by rw [if_neg (by omega), a2 101 (by decide)]; exact l4 y hy)
            exact ⟨m', a1.trans t1, t2, fun q => absurd gg q, fun _ => ⟨fun q => absurd rfl q, fun _ => t3⟩⟩
          · rw [if_neg g3, zcv_98, zk_205 (d + 1) 4 (by decide) (by decide), zbs, zmG_v, zb_211_61]
            exact found 4 _ gg (by unfold yCk; rw [if_neg (by omega), if_pos g3]) (by decide) rfl
    · rw [if_pos (zB_z.mpr g1), if_neg (by omega)]
      exact ⟨m, rfl, yFr_rfl, fun _ => h, fun q => absurd q.2 (by omega)⟩
  · rw [if_pos (zB_z.mpr g0), if_neg (by omega)]
    exact ⟨m, rfl, yFr_rfl, fun _ => h, fun q => absurd q.1 (by omega)⟩
end ZR
