/-! foresight of the class: goBehind, answerTo -/
/-- what goBehind leaves -/
def yBe (m : Nat → Int → Int) (b1 : Int → Int) (c1 : Int) (W : Int → Int) : Prop := yOn m 28 29 b1 c1 ∧ yNm2 m 32 b1 (yMv b1 c1) ∧ (∀ i : Int, 0 ≤ i → i < 6 → m 26 i = W i) ∧ m 23 10 = ySumL (yWm W b1) (yMv b1 c1)
def yP5 (x : Nat) (_ : Int) : Prop := x = 23 ∨ x = 26 ∨ 28 ≤ x ∧ x ≤ 41
def yP6 (x : Nat) (j : Int) : Prop := x = 23 ∧ j = 11 ∨ 30 ≤ x ∧ x ≤ 31 ∨ 36 ≤ x ∧ x ≤ 39
theorem yP5_hold : ∀ x j, yHold x j → ¬ yP5 x j := fun x j h q => by
  unfold yHold at h
  unfold yP5 at q
  omega
theorem yP5_fr {m m' : Nat → Int → Int} (h : yFq yP5 m m') : yFr 0 97 m m' := yFr_of h fun x j q => by
  unfold yP5 at q
  omega
theorem yFew_cg {f g : Nat → Int} {n : Nat} {p : Int} (h : ∀ i, i < n → f i = g i) (hp : yFew n f p) : yFew n g p := by
  rcases hp with hp | ⟨i, h1, h2, h3⟩
  · exact .inl hp
  · exact .inr ⟨i, h1, h2, fun j hj => by rw [← h i h2, ← h j hj]; exact h3 j hj⟩
section ZR
variable {L : Nat} {m : Nat → Int → Int} (D : Nat) {w : Int → List Int} {b : Int → Int} {c n e : Int} {W F : Int → Int} {Z : Int → List Int}
/-- the sum of the weights of moves listed -/
theorem zk_137g {q R a : Nat} {B : Int → Int} {xs : List Int} (h : yLs L q R) (hR : R ≤ 100000) (ha : zSH L a = (100, 6)) (hN : yMl m q B xs) (hl : xs.length ≤ R) (hle : xs.length ≤ 512) (ho : yOkv B xs) (hW : ∀ i : Int, 0 ≤ i → i < 6 → m a i = W i) (hW9 : ∀ i : Int, 0 ≤ i → i < 6 → 0 ≤ W i ∧ W i ≤ 9) : zmD zP (D + 3) 137 [zr q, zr a] (zW L m) = some (some (zi (ySumL (yWm W B) xs)), zW L m) := by
  have hw : ∀ v ∈ xs, 0 ≤ yWm W B v ∧ yWm W B v ≤ 9 := fun v hv => by
    obtain ⟨v1, v2, v3⟩ := ho v hv
    exact hW9 _ (by omega) (by omega)
  rw [zen_137, zb_137_0]
  suffices go : ∀ k i : Nat, i + k = xs.length → zmE (zmD zP (D+2)) zc_137 (4, [some (zr q), some (zr a), some (zi (ySumL (yWm W B) (xs.take i))), some (zi i)], [], zW L m) = some (some (zi (ySumL (yWm W B) xs)), zW L m) from go xs.length 0 (by omega)
  intro k
  induction k with
  | zero =>
    intro i hi
    rw [zb_137_4, yli h, zbs, hN.1, if_neg (by omega), show i = xs.length by omega, List.take_length]
  | succ k ih =>
    intro i hi
    have hs := ySumL_in (f := yWm W B) (c := 9) (xs.take i) fun x hx => hw x (List.mem_of_mem_take hx)
    have hli : (xs.take i).length ≤ 512 := by rw [List.length_take]; omega
    have hx := hw _ (yMem_get.mpr ⟨i, by omega, rfl⟩)
    have q := ih (i + 1) (by omega)
    rw [ySumL_take (f := yWm W B) (show i < xs.length by omega)] at q
    rw [zb_137_4, yli h, zbs, hN.1, if_pos (by omega), ylc h, zk_132 D h hR ha hN hl hW i (by omega) (yOkv_get ho (by omega)).2, zbs, zmG_v, zb_137_19, w32_of (z := ySumL (yWm W B) (xs.take i) + yWm W B (xs.getD i 0)) (by omega) (by omega), w32_of (z := (i : Int) + 1) (by omega) (by omega)]
    exact q
theorem zk_135 (h : yCs m w b c n e W F Z) {v : Int} (hv : v ∈ yMv b c) : ∃ m', zmD zP (D + 5) 135 [zr 23, zr 8, zi v, zr 19] (zW L m) = some (none, zW L m') ∧ yFq yP5 m m' ∧ yBe m' (yBv b v) (8 - c) W := by
  obtain ⟨⟨v1, v2⟩, v3⟩ := yMv_go hv
  have hpu := yPu_bv (yCs_pu h) hv
  have hok := yPu_ok hpu
  have hlen := yMv_le (b := yBv b v) (c := 8 - c) hpu.2.2.2
  rw [zen_135, zb_135_0, zgr_23_1, zbs, zw_copy (congrArg Prod.fst zh_19) (congrArg Prod.fst zh_26) (by decide) (by decide) (by decide) (by rw [zh_19]; decide) (by rw [zh_26]; decide), zbs]
  have kx : ∀ x, x ≠ 26 → zcp m 19 0 26 0 6 x = m x := fun x hx => zcp_ne hx
  have k26 : ∀ i : Int, 0 ≤ i → i < 6 → zcp m 19 0 26 0 6 26 i = W i := fun i i1 i2 => by
    unfold zcp
    rw [if_pos ⟨rfl, i1, by omega⟩, show (0 : Int) + (i - 0) = i by omega]
    exact (h.2.2.2.2.2.1 i i1 i2).1
  generalize zcp m 19 0 26 0 6 = m0 at *
  have on0 : yOn m0 8 9 b c := yOn_c ⟨h.2.1.1, h.2.1.2.1, h.2.1.2.2⟩ (kx 8 (by decide)) (kx 9 (by decide)) fun x hx => kx x (by omega)
  obtain ⟨T, M, e1, e2, e3, on1, kM⟩ := yOn_go (L := L) yBd_28 on0 (by decide) hv
  have fx : yFix M := by
    refine yFix_fr (P := yP5) h.2.2.2.2.1 (fun x j hx => ?_) fun x j hx q => by unfold yP5 at q; omega
    unfold yP5 at hx
    rw [kM x (by omega) (by omega), kx x (by omega)]
  obtain ⟨M1, r1, r2, r3⟩ := yOn_list (L := L) D yBd_28 on1 yLs_32 (.inl (by decide)) (.inl (by decide)) (.inl (by decide)) (.inl (by decide)) fx
  obtain ⟨M2, s1, s2, s3, f, s4, s5⟩ := r3 0
  have hWM : ∀ i : Int, 0 ≤ i → i < 6 → M2 26 i = W i := fun i i1 i2 => by
    rw [s2 26 (by decide), kM 26 (by decide) (by decide)]
    exact k26 i i1 i2
  rw [zgr_23_3, zbs, zcv_28, zk_136 (D + 3) yBd_28 yBd_8 (by decide) (by decide), e1, zbs, zmG_n, zb_135_20, zgr_23_3, zbs, zcv_28, zk_108 (D + 2) yBd_28 v ⟨v1, v2⟩ e2, e3, zbs, zmG_n, zb_135_28, zgr_23_3, zbs, zgr_23_5, zbs, zgr_23_2, zbs, zcv_28, r1, zbs, zmG_n, zb_135_43, zgr_23_0, zbs, zgr_23_5, zbs, zcv_24, s1, zbs, zmG_n, zb_135_55, zgr_23_5, zbs, zgr_23_1, zbs, zcv_32, zk_137g (D + 1) yLs_32 (by decide) zh_26 s3 (by omega) hlen hok hWM (fun i i1 i2 => (h.2.2.2.2.2.1 i i1 i2).2), zbs, zmG_v, zb_135_67, zpi_23, zbs]
  have kz : ∀ x, x ≠ 23 → zup M2 23 10 (ySumL (yWm W (yBv b v)) (yMv (yBv b v) (8 - c))) x = M2 x := fun x hx => by
    funext j
    exact zup_ne hx
  refine ⟨_, rfl, fun x j hx => ?_, yOn_c on1 ?_ ?_ (fun x hx => ?_), ?_, fun i i1 i2 => ?_, zup_self⟩
  · unfold yP5 at hx
    rw [kz x (by omega), s2 x (by omega), kM x (by omega) (by omega), kx x (by omega)]
  · rw [kz 28 (by decide), s2 28 (by decide)]
  · rw [kz 29 (by decide), s2 29 (by decide)]
  · rw [kz x (by omega), s2 x (by omega)]
  · unfold yNm2 yMl
    rw [kz 32 (by decide), kz (32 + 1) (by decide), kz (32 + 2) (by decide), kz (32 + 3) (by decide)]
    exact ⟨s3, fun i hi => by rw [s5 i hi]; exact yDone_whole s4 hi⟩
  · rw [kz 26 (by decide)]
    exact hWM i i1 i2
theorem yBe_fr {m m' : Nat → Int → Int} {b1 : Int → Int} {c1 : Int} {W : Int → Int} (h : yBe m b1 c1 W) (hf : yFq yP6 m m') : yBe m' b1 c1 W := by
  obtain ⟨h1, h2, h3, h4⟩ := h
  have q : ∀ x, x ≠ 23 → ¬ (30 ≤ x ∧ x ≤ 31) → ¬ (36 ≤ x ∧ x ≤ 39) → m' x = m x := fun x x1 x2 x3 => by
    funext j
    exact hf x j (by unfold yP6; omega)
  refine ⟨yOn_c h1 (q 28 (by decide) (by decide) (by decide)) (q 29 (by decide) (by decide) (by decide)) fun x hx => q x (by omega) (by omega) (by omega), ?_, by rw [q 26 (by decide) (by decide) (by decide)]; exact h3, by rw [hf 23 10 (by unfold yP6; omega)]; exact h4⟩
  unfold yNm2 yMl
  rw [q 32 (by decide) (by decide) (by decide), q (32 + 1) (by decide) (by decide) (by decide), q (32 + 2) (by decide) (by decide) (by decide), q (32 + 3) (by decide) (by decide) (by decide)]
  exact h2
/-- the answer to a reply, and its signs -/
noncomputable def yRaa (b1 : Int → Int) (c1 u : Int) : Int := yAm (yBv b1 u) (yMv (yBv b1 u) (8 - c1))
noncomputable def yRg (b1 : Int → Int) (c1 u : Int) : Int := yAs (yBv b1 u) (yMv (yBv b1 u) (8 - c1))
theorem zk_139 {b1 : Int → Int} {c1 : Int} (h : yBe m b1 c1 W) (hf : yFix m) (r : Nat) (hr : r < (yMv b1 c1).length) : ∃ m', zmD zP (D + 5) 139 [zr 23, zi r] (zW L m) = some (some (zi (yRaa b1 c1 ((yMv b1 c1).getD r 0))), zW L m') ∧ yFq yP6 m m' ∧ m' 23 11 = yRg b1 c1 ((yMv b1 c1).getD r 0) := by
  obtain ⟨on0, hN, hW, hs⟩ := h
  have hv : (yMv b1 c1).getD r 0 ∈ yMv b1 c1 := yMem_get.mpr ⟨r, hr, rfl⟩
  unfold yRaa yRg
  generalize eu : (yMv b1 c1).getD r 0 = u at *
  obtain ⟨⟨v1, v2⟩, v3⟩ := yMv_go hv
  have hl1 := yMv_le (b := b1) (c := c1) (yOn_pu on0).2.2.2
  have hpu := yPu_bv (yOn_pu on0) hv
  have hok := yPu_ok hpu
  have hlen := yMv_le (b := yBv b1 u) (c := 8 - c1) hpu.2.2.2
  obtain ⟨T, M, e1, e2, e3, on1, kM⟩ := yOn_go (L := L) yBd_30 on0 (by decide) hv
  have fx : yFix M := by
    refine yFix_fr (P := yP6) hf (fun x j hx => ?_) fun x j hx q => by unfold yP6 at q; omega
    unfold yP6 at hx
    rw [kM x (by omega) (by omega)]
  obtain ⟨M1, r1, r2, r3⟩ := yOn_list (L := L) D yBd_30 on1 yLs_36 (.inl (by decide)) (.inl (by decide)) (.inl (by decide)) (.inl (by decide)) fx
  obtain ⟨M2, s1, s2, s3, f, s4, s5⟩ := r3 1
  have hT : yTab M2 := yTab_fr on1.1.1 s2 (by decide)
  obtain ⟨p, t1, t2⟩ := zk_140 (L := L) (m := M2) (D + 1) yLs_36 hT _ s3.1 (by omega)
  have t3 := yFew_cg (g := fun i => yPop (yForm (yFm (yBv b1 u) (yMv (yBv b1 u) (8 - c1)) ((yMv (yBv b1 u) (8 - c1)).getD i 0) f))) (fun i hi => by rw [s5 i hi]) t2
  obtain ⟨t4, t5⟩ := yDone_few s4 t3
  have ep : p = yAp (yBv b1 u) (yMv (yBv b1 u) (8 - c1)) := yFew_uniq t4 (yFp_few _)
  have hcode : ∀ M' : Nat → Int → Int, M' 32 = m 32 → M' 33 = m 33 → zmD zP (D + 4) 97 [zr 32, zi r] (zW L M') = some (some (zi u), zW L M') := fun M' q1 q2 => by
    have hn : M' 32 3 = (yMv b1 c1).length := by rw [q1]; exact hN.1.1
    rw [zk_97 (D + 3) yLs_32 (by rw [hn]; omega), if_pos (by rw [hn]; omega)]
    show some (some (zi (M' 33 r)), _) = _
    rw [q2, (hN.1.2 r hr).1, eu]
  have kT : ∀ x, x ≠ 30 → x ≠ 31 → T x = m x := fun x x1 x2 => by
    obtain ⟨k1, k2, k3, k4⟩ := yTk_gd (a := 30) (e := 31) on0.1 (by decide) (by decide)
    rw [← e1]
    exact k4 x x1 x2
  rw [zen_139, zb_139_0, zgr_23_4, zbs, zgr_23_3, zbs, zcv_30, zk_136 (D + 3) yBd_30 yBd_28 (by decide) (by decide), e1, zbs, zmG_n, zb_139_11, zgr_23_4, zbs, zgr_23_5, zbs, zcv_32, hcode T (kT 32 (by decide) (by decide)) (kT 33 (by decide) (by decide)), zbs, zmG_v, zb_139_23, zcv_30, zk_108 (D + 2) yBd_30 u ⟨v1, v2⟩ e2, e3, zbs, zmG_n, zb_139_26, zgr_23_4, zbs, zgr_23_6, zbs, zgr_23_2, zbs, zcv_30, r1, zbs, zmG_n, zb_139_41, zgr_23_0, zbs, zgr_23_6, zbs, zcv_24, s1, zbs, zmG_n, zb_139_53, zgr_23_6, zbs, zcv_36, t1, zbs, zmG_v, zb_139_60]
  have fin : ∀ z : Int, z = yAs (yBv b1 u) (yMv (yBv b1 u) (8 - c1)) → ∃ m', zmE (zmD zP (D + 4)) zc_139 (79, [some (zr 23), some (zi r), some (zi p)], [zi z, zr 23], zW L M2) = some (some (zi (yAm (yBv b1 u) (yMv (yBv b1 u) (8 - c1)))), zW L m') ∧ yFq yP6 m m' ∧ m' 23 11 = yAs (yBv b1 u) (yMv (yBv b1 u) (8 - c1)) := fun z hz => by
    have kz : ∀ x, x ≠ 23 → zup M2 23 11 z x = M2 x := fun x hx => by
      funext j
      exact zup_ne hx
    have hn : zup M2 23 11 z 36 3 = (yMv (yBv b1 u) (8 - c1)).length := by rw [kz 36 (by decide)]; exact s3.1
    rw [zb_139_79, zpi_23, zbs, zgr_23_6, zbs, zcv_36, zk_97 (D + 3) yLs_36 (by rw [hn]; omega), zbs, zmG_v, zb_139_90, hn, kz (36 + 1) (by decide)]
    refine ⟨zup M2 23 11 z, ?_, fun x j hx => ?_, by rw [zup_self, hz]⟩
    · unfold yAm
      rw [← ep]
      rcases t2 with ⟨q1, q2⟩ | ⟨i, q1, q2, q3⟩
      · rw [q2, if_neg (by omega), if_pos rfl]
      · rw [q1, if_pos (by omega), if_neg (by omega), Int.toNat_natCast, (s3.2 i q2).1]
    · unfold yP6 at hx
      by_cases g : x = 23
      · subst g
        rw [zup_ne2 (by omega), s2 23 (by decide), kM 23 (by decide) (by decide)]
      · rw [kz x g, s2 x (by omega), kM x (by omega) (by omega)]
  by_cases g : p = -1
  · rw [if_pos g]
    refine fin 0 ?_
    unfold yAs
    rw [← ep, if_pos g]
  · rw [if_neg g, zgr_23_6, zbs, zcv_36, zk_117 (D + 2) yLs_36 (by rw [s3.1]; omega) hT, zbs, zmG_v]
    refine fin _ ?_
    unfold yAs
    rw [← ep, if_neg g, s3.1]
    rcases t2 with ⟨q1, q2⟩ | ⟨i, q1, q2, q3⟩
    · exact absurd q2 g
    · rw [q1, if_pos (by omega), Int.toNat_natCast, s5 i q2]
      exact t5 i q1 q2
end ZR
