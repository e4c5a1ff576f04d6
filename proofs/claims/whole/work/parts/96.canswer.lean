/-! answer and gain of the class -/
noncomputable def yAnsV (b : Int → Int) (c v i : Int) : Int := if (0 ≤ v ∧ v < 4096) ∧ 0 ≤ i then (if yT (v ∈ yMv b c) = 0 then -3 else if i < (yMv (yBv b v) (8 - c)).length then yRaa (yBv b v) (8 - c) ((yMv (yBv b v) (8 - c)).getD i.toNat 0) else -2) else -2
def yNo (x : Int) : Int := w64 ((-9223372036854775808) - x)
/-- the gain of a reply, as a number -/
noncomputable def yGu (b1 : Int → Int) (c1 : Int) (W : Int → Int) (fee u : Int) : Int := yGn (ySumL (yWm W b1) (yMv b1 c1)) (yWm W b1 u) (yNs b1 (yMv b1 c1) u) (yRg b1 c1 u) fee
noncomputable def yGaV (b : Int → Int) (c : Int) (W : Int → Int) (v i fee what : Int) : Int := if (0 ≤ v ∧ v < 4096) ∧ 0 ≤ i ∧ (0 ≤ fee ∧ fee ≤ 99) ∧ (0 ≤ what ∧ what ≤ 1) then (if yT (v ∈ yMv b c) = 0 then yNo (-3) else if i < (yMv (yBv b v) (8 - c)).length then (if yRaa (yBv b v) (8 - c) ((yMv (yBv b v) (8 - c)).getD i.toNat 0) = -1 then yNo (-3) else yGq (yGu (yBv b v) (8 - c) W fee ((yMv (yBv b v) (8 - c)).getD i.toNat 0)) (ySumL (yWm W (yBv b v)) (yMv (yBv b v) (8 - c))) what) else yNo (-2)) else yNo (-2)
section ZR
variable {L : Nat} {m : Nat → Int → Int} (D : Nat) {w : Int → List Int} {b : Int → Int} {c n e : Int} {W F : Int → Int} {Z : Int → List Int}
theorem yP6_5 {m m' : Nat → Int → Int} (h : yFq yP6 m m') : yFq yP5 m m' := fun x j hx => h x j fun q => hx (by unfold yP6 at q; unfold yP5; omega)
theorem yW9 (h : yCs m w b c n e W F Z) : ∀ i : Int, 0 ≤ i → i < 6 → 0 ≤ W i ∧ W i ≤ 9 := fun i i1 i2 => (h.2.2.2.2.2.1 i i1 i2).2
theorem zk_138 {b1 : Int → Int} {c1 : Int} (h : yBe m b1 c1 W) : zmD zP (D + 2) 138 [zr 23] (zW L m) = some (some (zi (yMv b1 c1).length), zW L m) := by
  rw [zen_138, zb_138_0, zgr_23_5, zbs, zcv_32, zk_90 D yLs_32, zbs, zmG_v, zb_138_7, h.2.1.1.1]
theorem yRg_in {b1 : Int → Int} {c1 u : Int} : 0 ≤ yRg b1 c1 u ∧ yRg b1 c1 u ≤ 4 := yAs_in
theorem yAt_0 {xs : List Int} {v p : Int} (h : yAt xs v p) : p = -1 ↔ yT (v ∈ xs) = 0 := by
  rw [yAt_n h, yT_z]
theorem yk_134 (h : yCs m w b c n e W F Z) (v i : Int) : ∃ m', zmD zP (D + 7) 134 [zr 0, zi v, zi i] (zW L m) = some (some (zi (yAnsV b c v i)), zW L m') ∧ yFr 0 97 m m' ∧ yCs m' w b c n e W F Z := by
  unfold yAnsV
  rw [zen_134, zb_134_0, zk_101, zbs, zmG_v, zb_134_4]
  by_cases g : 0 ≤ v ∧ v < 4096
  · rw [if_pos g, if_pos (c := (0 : Int) = 0) rfl]
    by_cases g1 : i < 0
    · rw [if_pos g1, if_neg (by omega)]
      exact ⟨m, rfl, yFr_rfl, h⟩
    · obtain ⟨M, p, r1, r2, r3, r4, r5⟩ := yk_102 (L := L) D h v
      rw [if_neg g1, if_pos ⟨g, by omega⟩, zcv_0, r1, zbs, zmG_v, zb_134_19]
      by_cases g2 : p = -1
      · rw [if_pos g2, if_pos ((yAt_0 r5).mp g2)]
        exact ⟨M, rfl, yFq_pl r2, r3⟩
      · have hv : v ∈ yMv b c := Classical.byContradiction fun q => g2 ((yAt_n r5).mpr q)
        obtain ⟨M2, s1, s2, s3⟩ := zk_135 (L := L) (D + 1) r3 hv
        have c2 := yCs_fr r3 s2 yP5_hold
        rw [if_neg g2, if_neg (fun q => g2 ((yAt_0 r5).mpr q)), zgr_0_9, zbs, zgr_0_1, zbs, zgr_0_7, zbs, zcv_23, s1, zbs, zmG_n, zb_134_42, zgr_0_9, zbs, zcv_23, zk_138 (D + 4) s3, zbs, zmG_v, zb_134_50]
        by_cases g3 : i < (yMv (yBv b v) (8 - c)).length
        · obtain ⟨M3, t1, t2, t3⟩ := zk_139 (L := L) (D + 1) s3 c2.2.2.2.2.1 i.toNat (by omega)
          rw [show ((i.toNat : Nat) : Int) = i by omega] at t1
          rw [if_pos g3, if_pos g3, zgr_0_9, zbs, zcv_23, t1, zbs, zmG_v, zb_134_61]
          exact ⟨M3, rfl, yFr_tr (yFr_tr (yFq_pl r2) (yP5_fr s2)) (yP5_fr (yP6_5 t2)), yCs_fr c2 (yP6_5 t2) yP5_hold⟩
        · rw [if_neg g3, if_neg g3]
          exact ⟨M2, rfl, yFr_tr (yFq_pl r2) (yP5_fr s2), c2⟩
  · rw [if_neg g, if_neg (c := (1 : Int) = 0) (by decide), if_neg (fun q => g q.1)]
    exact ⟨m, rfl, yFr_rfl, h⟩
theorem zk_144 {b1 : Int → Int} {c1 : Int} (h : yBe m b1 c1 W) (hW9 : ∀ i : Int, 0 ≤ i → i < 6 → 0 ≤ W i ∧ W i ≤ 9) (r : Nat) (hr : r < (yMv b1 c1).length) (fee : Int) (hf : 0 ≤ fee ∧ fee ≤ 99) (hs : m 23 11 = yRg b1 c1 ((yMv b1 c1).getD r 0)) (what : Int) (hw : what = 0 ∨ what = 1) : zmD zP (D + 4) (if what = 0 then 144 else 148) [zr 23, zi r, zi fee] (zW L m) = some (some (zl (yGq (yGu b1 c1 W fee ((yMv b1 c1).getD r 0)) (ySumL (yWm W b1) (yMv b1 c1)) what)), zW L m) := by
  have hok := yPu_ok (yOn_pu h.1)
  have hl1 := yMv_le (b := b1) (c := c1) (yOn_pu h.1).2.2.2
  have hww : ∀ v ∈ yMv b1 c1, 0 ≤ yWm W b1 v ∧ yWm W b1 v ≤ 9 := fun v hv => by
    obtain ⟨v1, v2, v3⟩ := hok v hv
    exact hW9 _ (by omega) (by omega)
  have hall := ySumL_in (f := yWm W b1) (c := 9) (yMv b1 c1) hww
  have hwr := hww _ (yMem_get.mpr ⟨r, hr, rfl⟩)
  have hns := yNs_in (b := b1) (xs := yMv b1 c1) (v := (yMv b1 c1).getD r 0)
  have p3 := (yGn_in (all := ySumL (yWm W b1) (yMv b1 c1)) (s1 := yNs b1 (yMv b1 c1) ((yMv b1 c1).getD r 0)) (fee := fee) (by omega) hwr (by omega) (yRg_in (b1 := b1) (c1 := c1) (u := (yMv b1 c1).getD r 0)) hf).2.2
  have e145 := zk_145 (L := L) D h hW9 r hr fee (yRg b1 c1 ((yMv b1 c1).getD r 0)) hf yRg_in
  have e10 := h.2.2.2
  have eu : yGn (ySumL (yWm W b1) (yMv b1 c1)) (yWm W b1 ((yMv b1 c1).getD r 0)) (yNs b1 (yMv b1 c1) ((yMv b1 c1).getD r 0)) (yRg b1 c1 ((yMv b1 c1).getD r 0)) fee = yGu b1 c1 W fee ((yMv b1 c1).getD r 0) := rfl
  rw [eu] at e145 p3
  generalize yGu b1 c1 W fee ((yMv b1 c1).getD r 0) = A at *
  generalize ySumL (yWm W b1) (yMv b1 c1) = all at *
  have e146 : ∀ u : zmW, zmD zP (D + 3) 146 [zi A] u = some (some (zi (A.natAbs : Nat)), u) := fun u => by
    rw [zen_146, zb_146_0]
    by_cases g : A < 0
    · rw [if_pos g, w32_of (by omega) (by omega), show ((A.natAbs : Nat) : Int) = -A by omega]
    · rw [if_neg g, show ((A.natAbs : Nat) : Int) = A by omega]
  unfold yGq
  rcases hw with rfl | rfl
  · rw [if_pos rfl, zen_144, zb_144_0, zgi_23, zbs, hs, zcv_23, e145, zbs, zmG_v, zb_144_10, zgi_23, zbs, e10]
    by_cases g : all = 0
    · rw [if_pos g, if_pos g, if_pos rfl]
    · have e147 := zk_147 (D + 2) A.natAbs all.toNat (by omega) (by omega) (u := zW L m)
      rw [show ((all.toNat : Nat) : Int) = all by omega] at e147
      have hg : 1 ≤ yGd0 A all := by
        have := Nat.gcd_pos_of_pos_right A.natAbs (show 0 < all.toNat by omega)
        unfold yGd0
        omega
      have hb := ytd_in (x := A) (C := 100000) hg (by omega) (by omega)
      rw [if_neg g, if_neg g, if_pos rfl, e146, zbs, zmG_v, zb_144_28, zgi_23, zbs, e10, e147, zbs, zmG_v, zb_144_35]
      show (if yGd0 A all = 0 then _ else some (some (zl (z_div A (yGd0 A all))), _)) = _
      rw [if_neg (by omega)]
      unfold z_div
      rw [w32_of (by omega) (by omega)]
  · rw [if_neg (c := (1 : Int) = 0) (by decide), zen_148, zb_148_0, zgi_23, zbs, hs, zcv_23, e145, zbs, zmG_v, zb_148_10, zgi_23, zbs, e10]
    by_cases g : all = 0
    · rw [if_pos g, if_pos g, if_neg (c := (1 : Int) = 0) (by decide)]
    · have e147 := zk_147 (D + 2) A.natAbs all.toNat (by omega) (by omega) (u := zW L m)
      rw [show ((all.toNat : Nat) : Int) = all by omega] at e147
      have hg : 1 ≤ yGd0 A all := by
        have := Nat.gcd_pos_of_pos_right A.natAbs (show 0 < all.toNat by omega)
        unfold yGd0
        omega
      have hb := ytd_in (x := all) (C := 100000) hg (by omega) (by omega)
      rw [if_neg g, if_neg g, if_neg (c := (1 : Int) = 0) (by decide), zbs, e146, zbs, zmG_v, zb_148_30, zgi_23, zbs, e10, e147, zbs, zmG_v, zb_148_37]
      show (if yGd0 A all = 0 then _ else some (some (zl (z_div all (yGd0 A all))), _)) = _
      rw [if_neg (by omega)]
      unfold z_div
      rw [w32_of (by omega) (by omega)]
theorem zk_142 (fee : Int) {u : zmW} : zmD zP (D + 1) 142 [zi fee] u = some (some (zi (if 0 ≤ fee ∧ fee ≤ 99 then 0 else 1)), u) := by
  rw [zen_142, zb_142_0]
  by_cases g : fee < 0
  · rw [if_pos g, zb_142_10, if_neg (by omega)]
  · by_cases g2 : 99 < fee
    · rw [if_neg g, if_pos g2, zb_142_10, if_neg (by omega)]
    · rw [if_neg g, if_neg g2, if_pos (by omega)]
theorem zk_143 (x : Int) {u : zmW} : zmD zP (D + 1) 143 [zi x] u = some (some (zl (yNo x)), u) := by
  rw [zen_143, zb_143_0]
  rfl
theorem yk_141 (h : yCs m w b c n e W F Z) (v i fee what : Int) : ∃ m', zmD zP (D + 7) 141 [zr 0, zi v, zi i, zi fee, zi what] (zW L m) = some (some (zl (yGaV b c W v i fee what)), zW L m') ∧ yFr 0 97 m m' ∧ yCs m' w b c n e W F Z := by
  unfold yGaV
  have bad2 : ∃ m', zmE (zmD zP (D+6)) zc_141 (29, [some (zr 0), some (zi v), some (zi i), some (zi fee), some (zi what)], [], zW L m) = some (some (zl (yNo (-2))), zW L m') ∧ yFr 0 97 m m' ∧ yCs m' w b c n e W F Z := ⟨m, by rw [zb_141_29, zk_143, zbs, zmG_v, zb_141_34], yFr_rfl, h⟩
  rw [zen_141, zb_141_0, zk_101, zbs, zmG_v, zb_141_4]
  by_cases g : 0 ≤ v ∧ v < 4096
  · rw [if_pos g, if_pos (c := (0 : Int) = 0) rfl]
    by_cases g1 : i < 0
    · rw [if_pos g1, if_neg (by omega)]
      exact bad2
    · rw [if_neg g1, zk_142, zbs, zmG_v, zb_141_15]
      by_cases gf : 0 ≤ fee ∧ fee ≤ 99
      · rw [if_pos gf, if_pos (c := (0 : Int) = 0) rfl]
        by_cases gw : 0 ≤ what ∧ what ≤ 1
        · obtain ⟨M, p, r1, r2, r3, r4, r5⟩ := yk_102 (L := L) D h v
          rw [if_neg (by omega), if_neg (by omega), if_pos ⟨g, by omega, gf, gw⟩, zcv_0, r1, zbs, zmG_v, zb_141_40]
          by_cases g2 : p = -1
          · rw [if_pos g2, if_pos ((yAt_0 r5).mp g2), zk_143, zbs, zmG_v, zb_141_49]
            exact ⟨M, rfl, yFq_pl r2, r3⟩
          · have hv : v ∈ yMv b c := Classical.byContradiction fun q => g2 ((yAt_n r5).mpr q)
            obtain ⟨M2, s1, s2, s3⟩ := zk_135 (L := L) (D + 1) r3 hv
            have c2 := yCs_fr r3 s2 yP5_hold
            rw [if_neg g2, if_neg (fun q => g2 ((yAt_0 r5).mpr q)), zgr_0_9, zbs, zgr_0_1, zbs, zgr_0_7, zbs, zcv_23, s1, zbs, zmG_n, zb_141_66, zgr_0_9, zbs, zcv_23, zk_138 (D + 4) s3, zbs, zmG_v, zb_141_74]
            by_cases g3 : i < (yMv (yBv b v) (8 - c)).length
            · obtain ⟨M3, t1, t2, t3⟩ := zk_139 (L := L) (D + 1) s3 c2.2.2.2.2.1 i.toNat (by omega)
              have c3 := yCs_fr c2 (yP6_5 t2) yP5_hold
              have f3 := yFr_tr (yFr_tr (yFq_pl r2) (yP5_fr s2)) (yP5_fr (yP6_5 t2))
              have e3 := zk_144 (L := L) (D + 2) (yBe_fr s3 t2) (yW9 c3) i.toNat (by omega) fee gf t3 what (by omega)
              rw [show ((i.toNat : Nat) : Int) = i by omega] at t1 e3
              rw [if_pos g3, if_pos g3, zgr_0_9, zbs, zcv_23, t1, zbs, zmG_v, zb_141_91]
              by_cases g4 : yRaa (yBv b v) (8 - c) ((yMv (yBv b v) (8 - c)).getD i.toNat 0) = -1
              · rw [if_pos g4, if_pos g4, zk_143, zbs, zmG_v, zb_141_100]
                exact ⟨M3, rfl, f3, c3⟩
              · rw [if_neg g4, if_neg g4]
                by_cases g5 : what = 0
                · rw [if_pos g5] at e3
                  rw [if_pos g5, zgr_0_9, zbs, zcv_23, e3, zbs, zmG_v, zb_141_115, zb_141_127]
                  exact ⟨M3, rfl, f3, c3⟩
                · rw [if_neg g5] at e3
                  rw [if_neg g5, zgr_0_9, zbs, zcv_23, e3, zbs, zmG_v, zb_141_127]
                  exact ⟨M3, rfl, f3, c3⟩
            · rw [if_neg g3, if_neg g3, zk_143, zbs, zmG_v, zb_141_82]
              exact ⟨M2, rfl, yFr_tr (yFq_pl r2) (yP5_fr s2), c2⟩
        · rw [if_neg (c := (0 ≤ v ∧ v < 4096) ∧ 0 ≤ i ∧ (0 ≤ fee ∧ fee ≤ 99) ∧ (0 ≤ what ∧ what ≤ 1)) (fun q => gw q.2.2.2)]
          by_cases g5 : what < 0
          · rw [if_pos g5]
            exact bad2
          · rw [if_neg g5, if_pos (by omega)]
            exact bad2
      · rw [if_neg gf, if_neg (c := (1 : Int) = 0) (by decide), if_neg (c := (0 ≤ v ∧ v < 4096) ∧ 0 ≤ i ∧ (0 ≤ fee ∧ fee ≤ 99) ∧ (0 ≤ what ∧ what ≤ 1)) (fun q => gf q.2.2.1)]
        exact bad2
  · rw [if_neg g, if_neg (c := (1 : Int) = 0) (by decide), if_neg (fun q => g q.1)]
    exact bad2
end ZR
