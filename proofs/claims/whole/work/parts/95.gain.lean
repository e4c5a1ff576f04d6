/-! the gain: as a number, and as a fraction without common divisors -/
def yGn (all wt s1 sg fee : Int) : Int := if all = 0 then -(s1 + sg) else wt * (fee + sg) - (s1 + sg) * all
def yGd0 (above all : Int) : Int := ((Nat.gcd above.natAbs all.toNat : Nat) : Int)
def yGq (above all what : Int) : Int := if all = 0 then (if what = 0 then above else 1) else if what = 0 then Int.tdiv above (yGd0 above all) else Int.tdiv all (yGd0 above all)
theorem ytd_in {x y C : Int} (hy : 1 ≤ y) (h1 : -C ≤ x) (h2 : x ≤ C) : -C ≤ Int.tdiv x y ∧ Int.tdiv x y ≤ C := by
  have nn : ∀ z : Int, 0 ≤ z → 0 ≤ Int.tdiv z y ∧ Int.tdiv z y ≤ z := fun z hz => by
    rw [Int.tdiv_eq_ediv_of_nonneg hz]
    exact ⟨Int.ediv_nonneg hz (by omega), Int.ediv_le_self y hz⟩
  by_cases g : 0 ≤ x
  · have := nn x g
    omega
  · have := nn (-x) (by omega)
    rw [Int.neg_tdiv] at this
    omega
theorem ymul_in {x y A B : Int} (hx : 0 ≤ x ∧ x ≤ A) (hy : 0 ≤ y ∧ y ≤ B) : 0 ≤ x * y ∧ x * y ≤ A * B := ⟨Int.mul_nonneg hx.1 hy.1, Int.mul_le_mul hx.2 hy.2 hy.1 (by omega)⟩
theorem yGn_in {all wt s1 sg fee : Int} (ha : 0 ≤ all ∧ all ≤ 4608) (hw : 0 ≤ wt ∧ wt ≤ 9) (h1 : 0 ≤ s1 ∧ s1 ≤ 4) (hg : 0 ≤ sg ∧ sg ≤ 4) (hf : 0 ≤ fee ∧ fee ≤ 99) : (0 ≤ wt * (fee + sg) ∧ wt * (fee + sg) ≤ 927) ∧ (0 ≤ (s1 + sg) * all ∧ (s1 + sg) * all ≤ 36864) ∧ -40000 ≤ yGn all wt s1 sg fee ∧ yGn all wt s1 sg fee ≤ 40000 := by
  have p1 := ymul_in hw (show 0 ≤ fee + sg ∧ fee + sg ≤ 103 by omega)
  have p2 := ymul_in (show 0 ≤ s1 + sg ∧ s1 + sg ≤ 8 by omega) ha
  refine ⟨by omega, by omega, ?_⟩
  unfold yGn
  split <;> omega
/-- with more signs in the answer nothing more is gained -/
theorem yGn_one {all wt s1 sg fee : Int} (hw : wt ≤ all) (ha : 0 ≤ all) (h1 : 0 ≤ s1) (hg : 1 ≤ sg) (h : 0 < yGn all wt s1 sg fee) : 0 < yGn all wt s1 1 fee := by
  unfold yGn at h ⊢
  by_cases g : all = 0
  · rw [if_pos g] at h
    omega
  · rw [if_neg g] at h ⊢
    have e1 : wt * (fee + sg) = wt * (fee + 1) + wt * (sg - 1) := by rw [← Int.mul_add]; congr 1; omega
    have e2 : (s1 + sg) * all = (s1 + 1) * all + (sg - 1) * all := by rw [← Int.add_mul]; congr 1; omega
    have e3 : wt * (sg - 1) ≤ all * (sg - 1) := Int.mul_le_mul_of_nonneg_right hw (by omega)
    rw [Int.mul_comm all] at e3
    omega
theorem ygcd_step {A B : Nat} : Nat.gcd B (A % B) = Nat.gcd A B := by
  rw [Nat.gcd_comm B, ← Nat.gcd_rec, Nat.gcd_comm]
section ZR
variable {L : Nat} {m : Nat → Int → Int} (D : Nat) {W : Int → Int}
theorem zk_147 (A B : Nat) (hA : A ≤ 100000) (hB : 0 < B ∧ B ≤ 4608) {u : zmW} : zmD zP (D + 1) 147 [zi A, zi B] u = some (some (zi ((Nat.gcd A B : Nat) : Int)), u) := by
  have fin : ∀ (a0 b0 : Int) (A i : Nat) (o5 : Option zmV), 0 < A → i ≤ 64 → zmE (zmD zP D) zc_147 (7, [some (zi a0), some (zi b0), some (zi A), some (zi ((0 : Nat) : Int)), some (zi i), o5], [], u) = some (some (zi A), u) := fun a0 b0 A i o5 hA hi => by
    have e : zmE (zmD zP D) zc_147 (34, [some (zi a0), some (zi b0), some (zi A), some (zi ((0 : Nat) : Int)), some (zi i), o5], [], u) = some (some (zi A), u) := by
      rw [zb_147_34, if_pos (by omega)]
    rw [zb_147_7, if_neg (c := (0 : Int) < ((0 : Nat) : Int)) (by omega), e]
    split <;> rfl
  have go : ∀ (k : Nat) (a0 b0 : Int) (A B i : Nat) (o5 : Option zmV), B < 2 ^ k → i + 2 * k ≤ 64 → A ≤ 100000 → B ≤ 100000 → 0 < A ∨ 0 < B → zmE (zmD zP D) zc_147 (7, [some (zi a0), some (zi b0), some (zi A), some (zi B), some (zi i), o5], [], u) = some (some (zi ((Nat.gcd A B : Nat) : Int)), u) := fun k => by
    induction k with
    | zero =>
      intro a0 b0 A B i o5 hB hi hA1 hB1 h0
      have : B = 0 := by
        rw [Nat.pow_zero] at hB
        omega
      subst this
      rw [Nat.gcd_zero_right]
      exact fin a0 b0 A i o5 (by omega) (by omega)
    | succ k ih =>
      intro a0 b0 A B i o5 hB hi hA1 hB1 h0
      by_cases g : B = 0
      · subst g
        rw [Nat.gcd_zero_right]
        exact fin a0 b0 A i o5 (by omega) (by omega)
      · have hr := Nat.mod_lt A (show 0 < B by omega)
        rw [zb_147_7, if_pos (by omega), if_pos (by omega), if_neg (by omega), z_rem_of (by omega) (by omega) (by omega) (by omega), w32_of (by omega) (by omega), show (A : Int) % (B : Int) = ((A % B : Nat) : Int) from rfl, ← ygcd_step]
        by_cases g2 : A % B = 0
        · rw [g2, Nat.gcd_zero_right]
          exact fin a0 b0 B (i + 1) _ (by omega) (by omega)
        · generalize eR : A % B = R at *
          have hr2 := Nat.mod_lt B (show 0 < R by omega)
          have e1 := Nat.mod_add_div B R
          have e2 : R * 1 ≤ R * (B / R) := Nat.mul_le_mul_left R (Nat.div_pos (by omega) (by omega))
          rw [Nat.pow_succ] at hB
          rw [zb_147_7, if_pos (by omega), if_pos (by omega), if_neg (by omega), z_rem_of (by omega) (by omega) (by omega) (by omega), w32_of (by omega) (by omega), show (B : Int) % (R : Int) = ((B % R : Nat) : Int) from rfl, ← ygcd_step]
          exact ih a0 b0 R (B % R) (i + 2) _ (by omega) (by omega) (by omega) (by omega) (by omega)
  rw [zen_147, zb_147_0]
  exact go 13 _ _ A B 0 none (by omega) (by omega) hA (by omega) (by omega)
theorem zk_283 (d : Nat) (above below : Int) (h1 : -100000 ≤ above ∧ above ≤ 100000) (hb : 1 ≤ below ∧ below ≤ 4608) (what : Int) {u : zmW} : zmD zP (d + 1) 283 [zl above, zl below, zi what] u = some (some (zl (Int.tdiv (if what = 0 then above else below) (yGd0 above below))), u) := by
  have go : ∀ (B A : Nat) (o9 o10 : Option zmV), A ≤ 100000 → B ≤ 100000 → ∃ o9' o10' : Option zmV, zmE (zmD zP d) zc_283 (17, [some (zl above), none, some (zl below), none, some (zi what), some (zl A), none, some (zl B), none, o9, o10], [], u) = zmE (zmD zP d) zc_283 (17, [some (zl above), none, some (zl below), none, some (zi what), some (zl ((Nat.gcd A B : Nat) : Int)), none, some (zl 0), none, o9', o10'], [], u) := fun B => by
    induction B using Nat.strongRecOn with
    | ind B ih =>
      intro A o9 o10 hA hB
      by_cases g : B = 0
      · subst g
        exact ⟨o9, o10, by rw [Nat.gcd_zero_right]; rfl⟩
      · have hr := Nat.mod_lt A (show 0 < B by omega)
        have e0 : z_reml (A : Int) (B : Int) = ((A % B : Nat) : Int) := by
          have q1 : Int.tdiv (A : Int) (B : Int) = ((A / B : Nat) : Int) := rfl
          have q2 := Nat.mod_add_div A B
          have q3 : A / B ≤ A := Nat.div_le_self A B
          unfold z_reml
          rw [q1]
          generalize A / B = Q at *
          generalize A % B = R at *
          rw [Nat.mul_comm] at q2
          rw [w64_of (z := (Q : Int)) (by omega) (by omega), ← Int.natCast_mul]
          generalize Q * B = P at *
          rw [w64_of (z := (P : Int)) (by omega) (by omega), w64_of (by omega) (by omega)]
          omega
        rw [zb_283_17, if_pos (show (0 : Int) < B by omega), if_neg (c := (1 : Int) = 0) (by decide), if_neg (by omega), e0, zb_283_31, ← ygcd_step]
        exact ih (A % B) hr B _ _ (by omega) (by omega)
  have hg : 1 ≤ yGd0 above below := by
    have := Nat.gcd_pos_of_pos_right above.natAbs (show 0 < below.toNat by omega)
    unfold yGd0
    omega
  have fin : ∀ A : Int, A = above.natAbs → zmE (zmD zP d) zc_283 (12, [some (zl above), none, some (zl below), none, some (zi what), none, none, none, none, none, none], [zl A], u) = some (some (zl (Int.tdiv (if what = 0 then above else below) (yGd0 above below))), u) := fun A hA => by
    obtain ⟨o9, o10, e⟩ := go below.toNat above.natAbs none none (by omega) (by omega)
    rw [show ((below.toNat : Nat) : Int) = below by omega] at e
    rw [zb_283_12, hA, e, zb_283_17, if_neg (c := (0 : Int) < 0) (by decide), if_pos (c := (0 : Int) = 0) rfl, if_pos (c := (0 : Int) = 0) rfl]
    show (if what = 0 then zmE _ _ (52, [_, _, _, _, _, some (zl (yGd0 above below)), _, _, _, _, _], _, _) else zmE _ _ (52, [_, _, _, _, _, some (zl (yGd0 above below)), _, _, _, _, _], _, _)) = _
    by_cases g : what = 0
    · have := ytd_in (x := above) (C := 100000) hg (by omega) (by omega)
      rw [if_pos g, if_pos g, zb_283_52, if_neg (by omega)]
      unfold z_divl
      rw [w64_of (by omega) (by omega)]
    · have := ytd_in (x := below) (C := 100000) hg (by omega) (by omega)
      rw [if_neg g, if_neg g, zb_283_52, if_neg (by omega)]
      unfold z_divl
      rw [w64_of (by omega) (by omega)]
  rw [zen_283, zb_283_0]
  by_cases g : above < 0
  · rw [if_neg (show ¬ (0 : Int) < above by omega), if_neg (show ¬ above = 0 by omega), if_pos (c := (-1 : Int) < 0) (by decide), w64_of (by omega) (by omega)]
    exact fin _ (by omega)
  · by_cases g2 : 0 < above
    · rw [if_pos g2, if_neg (c := (1 : Int) < 0) (by decide)]
      exact fin _ (by omega)
    · rw [if_neg g2, if_pos (c := above = 0) (by omega), if_neg (c := (0 : Int) < 0) (by decide)]
      exact fin _ (by omega)
/-! in the class -/
theorem zk_145 {b1 : Int → Int} {c1 : Int} (h : yBe m b1 c1 W) (hW9 : ∀ i : Int, 0 ≤ i → i < 6 → 0 ≤ W i ∧ W i ≤ 9) (r : Nat) (hr : r < (yMv b1 c1).length) (fee sg : Int) (hf : 0 ≤ fee ∧ fee ≤ 99) (hg : 0 ≤ sg ∧ sg ≤ 4) : zmD zP (D + 3) 145 [zr 23, zi r, zi fee, zi sg] (zW L m) = some (some (zi (yGn (ySumL (yWm W b1) (yMv b1 c1)) (yWm W b1 ((yMv b1 c1).getD r 0)) (yNs b1 (yMv b1 c1) ((yMv b1 c1).getD r 0)) sg fee)), zW L m) := by
  obtain ⟨on0, hN, hW, hs⟩ := h
  have hpu := yOn_pu on0
  have hok := yPu_ok hpu
  have hl1 := yMv_le (b := b1) (c := c1) hpu.2.2.2
  have hw : ∀ v ∈ yMv b1 c1, 0 ≤ yWm W b1 v ∧ yWm W b1 v ≤ 9 := fun v hv => by
    obtain ⟨v1, v2, v3⟩ := hok v hv
    exact hW9 _ (by omega) (by omega)
  have hall := ySumL_in (f := yWm W b1) (c := 9) (yMv b1 c1) hw
  have hwr := hw _ (yMem_get.mpr ⟨r, hr, rfl⟩)
  have hns := yNs_in (b := b1) (xs := yMv b1 c1) (v := (yMv b1 c1).getD r 0)
  have hm3 : m 32 3 = (yMv b1 c1).length := hN.1.1
  have hfr := hN.2 r hr
  have ens : yPop (yForm (m (32 + 3) r)) = yNs b1 (yMv b1 c1) ((yMv b1 c1).getD r 0) := by rw [hfr]; rfl
  obtain ⟨p1, p2, p3⟩ := yGn_in (all := ySumL (yWm W b1) (yMv b1 c1)) (s1 := yNs b1 (yMv b1 c1) ((yMv b1 c1).getD r 0)) (by omega) hwr (by omega) hg hf
  unfold yGn at p3 ⊢
  rw [zen_145, zb_145_0, zgr_23_5, zbs, zcv_32, zk_117 D yLs_32 (by rw [hm3]; omega) on0.1.1, zbs, zmG_v, zb_145_8, hm3, if_pos (show 0 ≤ (r : Int) ∧ (r : Int) < (yMv b1 c1).length by omega), ens, zgi_23, zbs, hs]
  by_cases g : ySumL (yWm W b1) (yMv b1 c1) = 0
  · rw [if_pos g, if_pos g, w32_of (z := yNs b1 (yMv b1 c1) ((yMv b1 c1).getD r 0) + sg) (by omega) (by omega), w32_of (by omega) (by omega)]
  · rw [if_neg g] at p3
    rw [if_neg g, if_neg g, zgr_23_5, zbs, zgr_23_1, zbs, zcv_32, zk_132 D yLs_32 (by decide) zh_26 hN.1 (by omega) hW r hr (yOkv_get hok hr).2, zbs, zmG_v, zb_145_38, zgi_23, zbs, hs, w32_of (z := fee + sg) (by omega) (by omega), w32_of (z := yNs b1 (yMv b1 c1) ((yMv b1 c1).getD r 0) + sg) (by omega) (by omega), Int.mul_comm (fee + sg), w32_of (z := yWm W b1 ((yMv b1 c1).getD r 0) * (fee + sg)) (by omega) (by omega), w32_of (z := (yNs b1 (yMv b1 c1) ((yMv b1 c1).getD r 0) + sg) * ySumL (yWm W b1) (yMv b1 c1)) (by omega) (by omega), w32_of (by omega) (by omega)]
end ZR
