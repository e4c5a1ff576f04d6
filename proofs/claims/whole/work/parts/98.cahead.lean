/-! ahead, of the class -/
/-- what a reply gains that is answered ahead; 0 where there's no answer -/
noncomputable def yGz (b1 : Int → Int) (c1 : Int) (W : Int → Int) (fee : Int) (r : Nat) : Int := if yRaa b1 c1 ((yMv b1 c1).getD r 0) = -1 then 0 else yGu b1 c1 W fee ((yMv b1 c1).getD r 0)
/-- the best k replies -/
noncomputable def yTpk (b1 : Int → Int) (c1 : Int) (W : Int → Int) (fee k : Int) : List Nat := (yRnk (yGz b1 c1 W fee) (yMv b1 c1).length).take k.toNat
noncomputable def yAhV (b : Int → Int) (c : Int) (W : Int → Int) (v k fee i : Int) : Int := if (0 ≤ v ∧ v < 4096) ∧ (0 ≤ k ∧ k ≤ 9) ∧ (0 ≤ fee ∧ fee ≤ 99) ∧ -1 ≤ i then (if yT (v ∈ yMv b c) = 0 then -3 else if i = -1 then (yTpk (yBv b v) (8 - c) W fee k).length else if i < (yTpk (yBv b v) (8 - c) W fee k).length then (yMv (yBv b v) (8 - c)).getD ((yTpk (yBv b v) (8 - c) W fee k).getD i.toNat 0) 0 else -1) else -2
theorem ySumL_mem {f : Int → Int} : ∀ (xs : List Int), (∀ x ∈ xs, 0 ≤ f x) → ∀ v ∈ xs, f v ≤ ySumL f xs
  | [], _, v, hv => absurd hv List.not_mem_nil
  | x :: xs, h, v, hv => by
    have h0 := h x List.mem_cons_self
    have h1 : 0 ≤ ySumL f xs := by
      have : ∀ ys : List Int, (∀ x ∈ ys, 0 ≤ f x) → 0 ≤ ySumL f ys := fun ys => by
        induction ys with
        | nil => intro _; exact Int.le_refl 0
        | cons a ys ih =>
          intro hy
          have a1 := hy a List.mem_cons_self
          have a2 := ih fun x hx => hy x (List.mem_cons_of_mem _ hx)
          show 0 ≤ f a + ySumL f ys
          omega
      exact this xs fun x hx => h x (List.mem_cons_of_mem _ hx)
    show f v ≤ f x + ySumL f xs
    rcases List.mem_cons.mp hv with rfl | hv
    · omega
    · have := ySumL_mem xs (fun x hx => h x (List.mem_cons_of_mem _ hx)) v hv
      omega
def yP7 (x : Nat) (j : Int) : Prop := x = 23 ∧ (j = 9 ∨ j = 11) ∨ 30 ≤ x ∧ x ≤ 31 ∨ 36 ≤ x ∧ x ≤ 41
theorem yP6_7 {m m' : Nat → Int → Int} (h : yFq yP6 m m') : yFq yP7 m m' := fun x j hx => h x j fun q => hx (by unfold yP6 at q; unfold yP7; omega)
theorem yP8_7 {m m' : Nat → Int → Int} (h : yFq yP8 m m') : yFq yP7 m m' := fun x j hx => h x j fun q => hx (by unfold yP8 at q; unfold yP7; omega)
theorem yP7_5 {m m' : Nat → Int → Int} (h : yFq yP7 m m') : yFq yP5 m m' := fun x j hx => h x j fun q => hx (by unfold yP7 at q; unfold yP5; omega)
theorem yBe_fr7 {m m' : Nat → Int → Int} {b1 : Int → Int} {c1 : Int} {W : Int → Int} (h : yBe m b1 c1 W) (hf : yFq yP7 m m') : yBe m' b1 c1 W := by
  obtain ⟨h1, h2, h3, h4⟩ := h
  have q : ∀ x, x ≠ 23 → ¬ (30 ≤ x ∧ x ≤ 31) → ¬ (36 ≤ x ∧ x ≤ 41) → m' x = m x := fun x x1 x2 x3 => by
    funext j
    exact hf x j (by unfold yP7; omega)
  refine ⟨yOn_c h1 (q 28 (by decide) (by decide) (by decide)) (q 29 (by decide) (by decide) (by decide)) fun x hx => q x (by omega) (by omega) (by omega), ?_, by rw [q 26 (by decide) (by decide) (by decide)]; exact h3, by rw [hf 23 10 (by unfold yP7; omega)]; exact h4⟩
  unfold yNm2 yMl
  rw [q 32 (by decide) (by decide) (by decide), q (32 + 1) (by decide) (by decide) (by decide), q (32 + 2) (by decide) (by decide) (by decide), q (32 + 3) (by decide) (by decide) (by decide)]
  exact h2
theorem yTp_fr {m m' : Nat → Int → Int} {xs : List Int} {G : Nat → Int} {T : List Nat} (h : yTp m xs G T) (hf : yFq yP6 m m') : yTp m' xs G T := by
  obtain ⟨h1, h2⟩ := h
  refine ⟨by rw [hf 23 9 (by unfold yP6; omega)]; exact h1, fun i hi => ?_⟩
  rw [hf 40 i (by unfold yP6; omega), hf 41 i (by unfold yP6; omega)]
  exact h2 i hi
section ZR
variable {L : Nat} {m : Nat → Int → Int} (D : Nat) {w : Int → List Int} {b : Int → Int} {c n e : Int} {W F : Int → Int} {Z : Int → List Int}
theorem zk_150 {b1 : Int → Int} {c1 : Int} (h : yBe m b1 c1 W) (hf : yFix m) (hW9 : ∀ i : Int, 0 ≤ i → i < 6 → 0 ≤ W i ∧ W i ≤ 9) (k : Nat) (hk : k ≤ 9) (fee : Int) (he : 0 ≤ fee ∧ fee ≤ 99) : ∃ m', zmD zP (D + 6) 150 [zr 23, zi k, zi fee] (zW L m) = some (some (zi (yTpk b1 c1 W fee k).length), zW L m') ∧ yFq yP7 m m' ∧ yTp m' (yMv b1 c1) (yGz b1 c1 W fee) (yTpk b1 c1 W fee k) := by
  have hok := yPu_ok (yOn_pu h.1)
  have hl1 := yMv_le (b := b1) (c := c1) (yOn_pu h.1).2.2.2
  have hww : ∀ v ∈ yMv b1 c1, 0 ≤ yWm W b1 v ∧ yWm W b1 v ≤ 9 := fun v hv => by
    obtain ⟨v1, v2, v3⟩ := hok v hv
    exact hW9 _ (by omega) (by omega)
  unfold yTpk
  rw [Int.toNat_natCast]
  suffices go : ∀ (j r : Nat) (M : Nat → Int → Int) (o4 : Option zmV), r + j = (yMv b1 c1).length → yFq yP7 m M → yTp M (yMv b1 c1) (yGz b1 c1 W fee) ((yRnk (yGz b1 c1 W fee) r).take k) → ∃ m', zmE (zmD zP (D+5)) zc_150 (7, [some (zr 23), some (zi k), some (zi fee), some (zi r), o4], [], zW L M) = some (some (zi ((yRnk (yGz b1 c1 W fee) (yMv b1 c1).length).take k).length), zW L m') ∧ yFq yP7 m m' ∧ yTp m' (yMv b1 c1) (yGz b1 c1 W fee) ((yRnk (yGz b1 c1 W fee) (yMv b1 c1).length).take k) by
    have kx : yFq yP7 m (zup m 23 9 0) := fun x j hx => by
      unfold yP7 at hx
      by_cases g : x = 23
      · subst g
        exact zup_ne2 (by omega)
      · exact zup_ne g
    obtain ⟨m', r1, r2, r3⟩ := go (yMv b1 c1).length 0 (zup m 23 9 0) none (by omega) kx (by
      rw [yRnk, List.take_nil]
      exact ⟨zup_self, fun i hi => absurd hi (Nat.not_lt_zero i)⟩)
    refine ⟨m', ?_, r2, r3⟩
    rw [zen_150, zb_150_0, zpi_23, zbs]
    exact r1
  intro j
  induction j with
  | zero =>
    intro r M o4 hr f1 f2
    have hM := yBe_fr7 h f1
    rw [show r = (yMv b1 c1).length by omega] at f2 ⊢
    rw [zb_150_7, zgr_23_5, zbs, zcv_32, zk_90 (D + 4) yLs_32, zbs, zmG_v, zb_150_15, hM.2.1.1.1, if_neg (by omega), zgi_23, zbs, f2.1]
    exact ⟨M, rfl, f1, f2⟩
  | succ j ih =>
    intro r M o4 hr f1 f2
    have hM := yBe_fr7 h f1
    have fM : yFix M := yFix_fr hf f1 fun x i hx q => by unfold yP7 at q; omega
    have hv : (yMv b1 c1).getD r 0 ∈ yMv b1 c1 := yMem_get.mpr ⟨r, by omega, rfl⟩
    have hwt := ySumL_mem (f := yWm W b1) (yMv b1 c1) (fun x hx => (hww x hx).1) _ hv
    have hall := ySumL_in (f := yWm W b1) (c := 9) (yMv b1 c1) hww
    have hns := yNs_in (b := b1) (xs := yMv b1 c1) (v := (yMv b1 c1).getD r 0)
    have e1 := zk_145 (L := L) (D + 2) hM hW9 r (by omega) fee 1 he (by decide)
    have eG : yGz b1 c1 W fee r = if yRaa b1 c1 ((yMv b1 c1).getD r 0) = -1 then 0 else yGu b1 c1 W fee ((yMv b1 c1).getD r 0) := rfl
    -- goes on with what is there
    have on : ∀ (M' : Nat → Int → Int) (o : Option zmV), ¬ 0 < yGz b1 c1 W fee r → yFq yP7 m M' → yTp M' (yMv b1 c1) (yGz b1 c1 W fee) ((yRnk (yGz b1 c1 W fee) r).take k) → ∃ m', zmE (zmD zP (D+5)) zc_150 (74, [some (zr 23), some (zi k), some (zi fee), some (zi r), o], [], zW L M') = some (some (zi ((yRnk (yGz b1 c1 W fee) (yMv b1 c1).length).take k).length), zW L m') ∧ yFq yP7 m m' ∧ yTp m' (yMv b1 c1) (yGz b1 c1 W fee) ((yRnk (yGz b1 c1 W fee) (yMv b1 c1).length).take k) := fun M' o g q1 q2 => by
      rw [zb_150_74, w32_of (by omega) (by omega)]
      refine ih (r + 1) M' o (by omega) q1 ?_
      rw [yRnk, if_neg g]
      exact q2
    rw [zb_150_7, zgr_23_5, zbs, zcv_32, zk_90 (D + 4) yLs_32, zbs, zmG_v, zb_150_15, hM.2.1.1.1, if_pos (by omega), zcv_23, e1, zbs, zmG_v, zb_150_25]
    by_cases g1 : 0 < yGn (ySumL (yWm W b1) (yMv b1 c1)) (yWm W b1 ((yMv b1 c1).getD r 0)) (yNs b1 (yMv b1 c1) ((yMv b1 c1).getD r 0)) 1 fee
    · obtain ⟨M2, s1, s2, s3⟩ := zk_139 (L := L) D hM fM r (by omega)
      have q1 := yFq_tr f1 (yP6_7 s2)
      have q2 := yTp_fr f2 s2
      have hM2 := yBe_fr7 h q1
      rw [if_pos g1, zcv_23, s1, zbs, zmG_v, zb_150_33]
      by_cases g2 : yRaa b1 c1 ((yMv b1 c1).getD r 0) = -1
      · rw [if_pos g2]
        exact on M2 o4 (by rw [eG, if_pos g2]; omega) q1 q2
      · have e2 := zk_145 (L := L) (D + 2) hM2 hW9 r (by omega) fee (yRg b1 c1 ((yMv b1 c1).getD r 0)) he yRg_in
        have e3 : yGn (ySumL (yWm W b1) (yMv b1 c1)) (yWm W b1 ((yMv b1 c1).getD r 0)) (yNs b1 (yMv b1 c1) ((yMv b1 c1).getD r 0)) (yRg b1 c1 ((yMv b1 c1).getD r 0)) fee = yGz b1 c1 W fee r := by
          rw [eG, if_neg g2]
          rfl
        rw [e3] at e2
        rw [if_neg g2, zgi_23, zbs, s3, zcv_23, e2, zbs, zmG_v, zb_150_47]
        by_cases g3 : 0 < yGz b1 c1 W fee r
        · have hm3 : M2 32 3 = (yMv b1 c1).length := hM2.2.1.1.1
          have hcd : M2 (32 + 1) r = (yMv b1 c1).getD r 0 := (hM2.2.1.1.2 r (by omega)).1
          have hpw : ((yRnk (yGz b1 c1 W fee) r).take k).Pairwise (yBf (yGz b1 c1 W fee)) := (yRnk_pw r).sublist (List.take_sublist k _)
          obtain ⟨M3, t1, t2, t3⟩ := zk_151 (L := L) (D + 3) q2 hpw k hk (by rw [List.length_take]; omega) r
          rw [if_pos g3, zgr_23_5, zbs, zcv_32, zk_97 (D + 4) yLs_32 (by rw [hm3]; omega), if_pos (by rw [hm3]; omega), hcd, zbs, zmG_v, zb_150_63, zk_35, zbs, zmG_v, if_neg (by omega), zb_150_71, zcv_23, t1, zbs, zmG_n, zb_150_74, w32_of (by omega) (by omega)]
          refine ih (r + 1) M3 _ (by omega) (yFq_tr q1 (yP8_7 t2)) ?_
          rw [yRnk, if_pos g3, ← yInR_take]
          exact t3
        · rw [if_neg g3]
          exact on M2 _ g3 q1 q2
    · rw [if_neg g1]
      refine on M o4 (fun q => ?_) f1 f2
      rw [eG] at q
      by_cases g2 : yRaa b1 c1 ((yMv b1 c1).getD r 0) = -1
      · rw [if_pos g2] at q
        omega
      · rw [if_neg g2] at q
        exact g1 (yGn_one hwt (by omega) (by omega) (yAs_pos g2) q)
theorem yk_149 (h : yCs m w b c n e W F Z) (v k fee i : Int) : ∃ m', zmD zP (D + 7) 149 [zr 0, zi v, zi k, zi fee, zi i] (zW L m) = some (some (zi (yAhV b c W v k fee i)), zW L m') ∧ yFr 0 97 m m' ∧ yCs m' w b c n e W F Z := by
  unfold yAhV
  rw [zen_149, zb_149_0, zk_101, zbs, zmG_v, zb_149_4]
  by_cases g : 0 ≤ v ∧ v < 4096
  · rw [if_pos g, if_pos (c := (0 : Int) = 0) rfl]
    by_cases gk : 0 ≤ k ∧ k ≤ 9
    · rw [if_neg (by omega), if_neg (by omega), zk_142, zbs, zmG_v, zb_149_21]
      by_cases gf : 0 ≤ fee ∧ fee ≤ 99
      · rw [if_pos gf, if_pos (c := (0 : Int) = 0) rfl]
        by_cases gi : i < -1
        · rw [if_pos gi, if_neg (by omega)]
          exact ⟨m, rfl, yFr_rfl, h⟩
        · obtain ⟨M, p, r1, r2, r3, r4, r5⟩ := yk_102 (L := L) D h v
          rw [if_neg gi, if_pos ⟨g, gk, gf, by omega⟩, zcv_0, r1, zbs, zmG_v, zb_149_38]
          by_cases g2 : p = -1
          · rw [if_pos g2, if_pos ((yAt_0 r5).mp g2)]
            exact ⟨M, rfl, yFq_pl r2, r3⟩
          · have hv : v ∈ yMv b c := Classical.byContradiction fun q => g2 ((yAt_n r5).mpr q)
            obtain ⟨M2, s1, s2, s3⟩ := zk_135 (L := L) (D + 1) r3 hv
            have c2 := yCs_fr r3 s2 yP5_hold
            obtain ⟨M3, t1, t2, t3⟩ := zk_150 (L := L) D s3 c2.2.2.2.2.1 (yW9 c2) k.toNat (by omega) fee gf
            rw [show ((k.toNat : Nat) : Int) = k by omega] at t1 t3
            have f3 := yFr_tr (yFr_tr (yFq_pl r2) (yP5_fr s2)) (yP5_fr (yP7_5 t2))
            have c3 := yCs_fr c2 (yP7_5 t2) yP5_hold
            have hl9 : (yTpk (yBv b v) (8 - c) W fee k).length ≤ 9 := by
              unfold yTpk
              rw [List.length_take]
              omega
            rw [if_neg g2, if_neg (fun q => g2 ((yAt_0 r5).mpr q)), zgr_0_9, zbs, zgr_0_1, zbs, zgr_0_7, zbs, zcv_23, s1, zbs, zmG_n, zb_149_61, zgr_0_9, zbs, zcv_23, t1, zbs, zmG_v, zb_149_70]
            by_cases g3 : i = -1
            · rw [if_pos g3, if_pos g3, zb_149_92]
              exact ⟨M3, rfl, f3, c3⟩
            · rw [if_neg g3, if_neg g3, zgr_0_9, zbs, zcv_23, zen_152, zb_152_0, if_neg (by omega), zgi_23, zbs, t3.1]
              by_cases g4 : i < (yTpk (yBv b v) (8 - c) W fee k).length
              · have := (t3.2 i.toNat (by omega)).1
                rw [show ((i.toNat : Nat) : Int) = i by omega] at this
                rw [if_pos g4, if_pos g4, zgr_23_7, zbs, zai_40 (by omega) (by omega), zbs, this, zbs, zmG_v, zb_149_92]
                exact ⟨M3, rfl, f3, c3⟩
              · rw [if_neg g4, if_neg g4, zbs, zmG_v, zb_149_92]
                exact ⟨M3, rfl, f3, c3⟩
      · rw [if_neg gf, if_neg (c := (1 : Int) = 0) (by decide), if_neg (c := (0 ≤ v ∧ v < 4096) ∧ (0 ≤ k ∧ k ≤ 9) ∧ (0 ≤ fee ∧ fee ≤ 99) ∧ -1 ≤ i) (fun q => gf q.2.2.1)]
        exact ⟨m, rfl, yFr_rfl, h⟩
    · rw [if_neg (c := (0 ≤ v ∧ v < 4096) ∧ (0 ≤ k ∧ k ≤ 9) ∧ (0 ≤ fee ∧ fee ≤ 99) ∧ -1 ≤ i) (fun q => gk q.2.1)]
      by_cases g5 : k < 0
      · rw [if_pos g5]
        exact ⟨m, rfl, yFr_rfl, h⟩
      · rw [if_neg g5, if_pos (by omega)]
        exact ⟨m, rfl, yFr_rfl, h⟩
  · rw [if_neg g, if_neg (c := (1 : Int) = 0) (by decide), if_neg (fun q => g q.1)]
    exact ⟨m, rfl, yFr_rfl, h⟩
end ZR
