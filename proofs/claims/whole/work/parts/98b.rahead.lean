/-! answer, gain, ahead of the reference -/
/-- the first place of the greatest above 0, among the first n -/
def yMx (g : Nat → Int) (n : Nat) (p : Int) : Prop := (p = -1 ∧ ∀ a : Nat, a < n → g a ≤ 0) ∨ ∃ q : Nat, p = q ∧ q < n ∧ 0 < g q ∧ ∀ a : Nat, a < n → g a ≤ g q ∧ (a < q → g a < g q)
theorem yMx_is {g : Nat → Int} {n s : Nat} {p : Int} (h : yMx g n p) (hs : s < n) (h0 : 0 < g s) (hm : ∀ a : Nat, a < n → g a ≤ g s ∧ (a < s → g a < g s)) : p = s := by
  rcases h with ⟨h1, h2⟩ | ⟨q, h1, h2, h3, h4⟩
  · have := h2 s hs
    omega
  · have a1 := h4 s hs
    have a2 := hm q h2
    rcases Nat.lt_trichotomy q s with k | k | k
    · have := a2.2 k
      omega
    · rw [h1, k]
    · have := a1.2 k
      omega
theorem yMx_no {g : Nat → Int} {n : Nat} {p : Int} (h : yMx g n p) (hn : ∀ a : Nat, a < n → g a ≤ 0) : p = -1 := by
  rcases h with ⟨h1, h2⟩ | ⟨q, h1, h2, h3, h4⟩
  · exact h1
  · have := hn q h2
    omega
theorem yMx_s {g : Nat → Int} {n : Nat} {p : Int} (h : yMx g n p) : yMx g (n + 1) (if 0 < g n ∧ (p = -1 ∨ g p.toNat < g n) then n else p) := by
  by_cases k : 0 < g n ∧ (p = -1 ∨ g p.toNat < g n)
  · rw [if_pos k]
    refine .inr ⟨n, rfl, Nat.lt_succ_self n, k.1, fun a ha => ?_⟩
    by_cases e : a = n
    · rw [e]
      exact ⟨Int.le_refl _, fun q => absurd q (Nat.lt_irrefl n)⟩
    · rcases h with ⟨h1, h2⟩ | ⟨q, h1, h2, h3, h4⟩
      · have := h2 a (by omega)
        omega
      · have := (h4 a (by omega)).1
        have k2 := k.2
        rw [h1, Int.toNat_natCast] at k2
        omega
  · rw [if_neg k]
    rcases h with ⟨h1, h2⟩ | ⟨q, h1, h2, h3, h4⟩
    · refine .inl ⟨h1, fun a ha => ?_⟩
      by_cases e : a = n
      · rw [e]
        apply Classical.byContradiction
        intro c
        exact k ⟨by omega, .inl h1⟩
      · exact h2 a (by omega)
    · refine .inr ⟨q, h1, by omega, h3, fun a ha => ?_⟩
      by_cases e : a = n
      · rw [e]
        rw [h1, Int.toNat_natCast] at k
        omega
      · exact h4 a (by omega)
section ZR
variable {L : Nat} {m : Nat → Int → Int} (d : Nat) {w : Int → List Int} {b : Int → Int} {c n e : Int} {W F : Int → Int} {Z : Int → List Int}
theorem yr_272 (h : yRs m w b c n e W F Z) {v : Int} (hv : 0 ≤ v ∧ v < 4096) : zmD zP (d + 6) 272 [zr 98, zi v] (zW L m) = some (some (zi (yT (v ∈ yMv b c))), zW L m) := by
  have ht := yT_or (p := v ∈ yMv b c)
  rw [zen_272, zb_272_0, z_div_of hv.1 (by omega) (by decide), z_rem_of hv.1 (by omega) (by decide) (by decide), zcv_98, yr_234 d h v hv, zbs, zmG_v, zb_272_13, if_pos ht]
theorem yr_271 (h : yRs m w b c n e W F Z) (v i : Int) : ∃ m', zmD zP (d + 8) 271 [zr 98, zi v, zi i] (zW L m) = some (some (zi (yAnsV b c v i)), zW L m') ∧ yFr 98 117 m m' ∧ yRs m' w b c n e W F Z := by
  unfold yAnsV
  rw [zen_271, zb_271_0, zk_244, zbs, zmG_v, zb_271_4]
  by_cases g : 0 ≤ v ∧ v < 4096
  · rw [if_neg (fun q => zB_z.mp q (by omega))]
    by_cases g1 : i < 0
    · rw [if_pos g1, if_neg (c := (0 ≤ v ∧ v < 4096) ∧ 0 ≤ i) (by omega)]
      exact ⟨m, rfl, yFr_rfl, h⟩
    · rw [if_neg g1, if_pos (c := (0 ≤ v ∧ v < 4096) ∧ 0 ≤ i) ⟨g, by omega⟩, zcv_98, yr_272 (d + 1) h g, zbs, zmG_v, zb_271_19]
      by_cases g2 : yT (v ∈ yMv b c) = 0
      · rw [if_pos g2, if_pos g2]
        exact ⟨m, rfl, yFr_rfl, h⟩
      · have hv : v ∈ yMv b c := Classical.byContradiction fun q => g2 (yT_neg q)
        obtain ⟨M, r1, r2, r3, r4⟩ := yr_273 (L := L) d h hv
        have hle := r4.2.1
        rw [if_neg g2, if_neg g2, zcv_98, r1, zbs, zmG_n, zb_271_30, zgr_98_12, zbs, zai_108 (by decide) (by decide), zbs, r4.1]
        by_cases g3 : i < (yMv (yBv b v) (8 - c)).length
        · have hu : (yMv (yBv b v) (8 - c)).getD i.toNat 0 ∈ yMv (yBv b v) (8 - c) := yMem_get.mpr ⟨i.toNat, by omega, rfl⟩
          have e1 := yRm_i r4 (i := i.toNat) (by omega)
          rw [show (512 : Int) * 1 + (i.toNat : Nat) = 512 + i by omega] at e1
          obtain ⟨M2, s1, s2, s3, s4⟩ := yr_276 (L := L) d r3 hu
          have F := yFq_tr r2 (yPlv_le (by decide) s2)
          rw [if_pos g3, if_pos g3, zgr_98_11, zbs, w32_of (by omega) (by omega), zai_107 (by omega) (by omega), zbs, e1, zcv_98, s1, zbs, zmG_n, zb_271_57, zgi_98, zbs, s3]
          exact ⟨M2, rfl, yPlv_fr F, yRs_fr h F yPlv_hold⟩
        · rw [if_neg g3, if_neg g3]
          exact ⟨M, rfl, yPlv_fr r2, yRs_fr h r2 yPlv_hold⟩
  · rw [if_pos (zB_z.mpr (by omega)), if_neg (fun q => g q.1)]
    exact ⟨m, rfl, yFr_rfl, h⟩
theorem yr_281 {b1 : Int → Int} {c1 : Int} (h : yRl m 1 b1 c1) (hm : yRm m 1 (yMv b1 c1)) (hW : ∀ i : Int, 0 ≤ i → i < 6 → m 111 i = W i ∧ 0 ≤ W i ∧ W i ≤ 9) : zmD zP (d + 2) 281 [zr 98] (zW L m) = some (some (zi (ySumL (yWm W b1) (yMv b1 c1))), zW L m) := by
  have hle := hm.2.1
  have hok := yPu_ok h.1
  have hw : ∀ v ∈ yMv b1 c1, 0 ≤ yWm W b1 v ∧ yWm W b1 v ≤ 9 := fun v hv => by
    obtain ⟨v1, v2, v3⟩ := hok v hv
    exact (hW _ (by omega) (by omega)).2
  rw [zen_281, zb_281_0]
  suffices go : ∀ k i : Nat, i + k = (yMv b1 c1).length → zmE (zmD zP (d+1)) zc_281 (4, [some (zr 98), some (zi (ySumL (yWm W b1) ((yMv b1 c1).take i))), some (zi i)], [], zW L m) = some (some (zi (ySumL (yWm W b1) (yMv b1 c1))), zW L m) from go (yMv b1 c1).length 0 (by omega)
  intro k
  induction k with
  | zero =>
    intro i hi
    rw [zb_281_4, zgr_98_12, zbs, zai_108 (by decide) (by decide), zbs, hm.1, if_neg (by omega), show i = (yMv b1 c1).length by omega, List.take_length]
  | succ k ih =>
    intro i hi
    have hs := ySumL_in (f := yWm W b1) (c := 9) ((yMv b1 c1).take i) fun x hx => hw x (List.mem_of_mem_take hx)
    have hli : ((yMv b1 c1).take i).length ≤ 512 := by rw [List.length_take]; omega
    have hv : (yMv b1 c1).getD i 0 ∈ yMv b1 c1 := yMem_get.mpr ⟨i, by omega, rfl⟩
    have hx := hw _ hv
    have e1 := yRm_i hm (i := i) (by omega)
    rw [show (512 : Int) * 1 + (i : Nat) = 512 + i by omega] at e1
    have q := ih (i + 1) (by omega)
    rw [ySumL_take (f := yWm W b1) (show i < (yMv b1 c1).length by omega)] at q
    rw [zb_281_4, zgr_98_12, zbs, zai_108 (by decide) (by decide), zbs, hm.1, if_pos (by omega), zgr_98_11, zbs, w32_of (by omega) (by omega), zai_107 (by omega) (by omega), zbs, e1, zcv_98, yr_269l d (l := 1) (by decide) h hW hv, zbs, zmG_v, zb_281_30, w32_of (z := ySumL (yWm W b1) ((yMv b1 c1).take i) + yWm W b1 ((yMv b1 c1).getD i 0)) (by omega) (by omega), w32_of (z := (i : Int) + 1) (by omega) (by omega)]
    exact q
/-- what a reply gains, the answer's signs being known -/
theorem yr_282 {b1 : Int → Int} {c1 : Int} (h : yRl m 1 b1 c1) (hm : yRm m 1 (yMv b1 c1)) (hW : ∀ i : Int, 0 ≤ i → i < 6 → m 111 i = W i ∧ 0 ≤ W i ∧ W i ≤ 9) {u : Int} (hu : u ∈ yMv b1 c1) (fee : Int) (hf : 0 ≤ fee ∧ fee ≤ 99) (hg : m 98 25 = yRg b1 c1 u) : ∃ m', zmD zP (d + 4) 282 [zr 98, zi u, zi fee, zi (ySumL (yWm W b1) (yMv b1 c1))] (zW L m) = some (some (zi (yGu b1 c1 W fee u)), zW L m') ∧ yFq yS8 m m' := by
  have hle := hm.2.1
  have hok := yPu_ok h.1
  have hw : ∀ v ∈ yMv b1 c1, 0 ≤ yWm W b1 v ∧ yWm W b1 v ≤ 9 := fun v hv => by
    obtain ⟨v1, v2, v3⟩ := hok v hv
    exact (hW _ (by omega) (by omega)).2
  have hall := ySumL_in (f := yWm W b1) (c := 9) (yMv b1 c1) hw
  have hwu := hw u hu
  have hns := yNs_in (b := b1) (xs := yMv b1 c1) (v := u)
  have hrg := yRg_in (b1 := b1) (c1 := c1) (u := u)
  obtain ⟨p1, p2, p3⟩ := yGn_in (all := ySumL (yWm W b1) (yMv b1 c1)) (s1 := yNs b1 (yMv b1 c1) u) (fee := fee) (by omega) hwu (by omega) hrg hf
  obtain ⟨M, r1, r2, r3, r4⟩ := yr_253l (L := L) d (l := 1) (by decide) h hm hu
  have h25 : M 98 25 = yRg b1 c1 u := (r2 98 25 (by unfold yS8; omega)).trans hg
  have hWM : ∀ i : Int, 0 ≤ i → i < 6 → M 111 i = W i ∧ 0 ≤ W i ∧ W i ≤ 9 := fun i i1 i2 => by
    rw [r2 111 i (by unfold yS8; omega)]
    exact hW i i1 i2
  refine ⟨M, ?_, r2⟩
  unfold yGu yGn
  unfold yGn at p3
  rw [zen_282, zb_282_0, zcv_98, r1, zbs, zmG_v, zb_282_6, zgi_98, zbs, h25]
  by_cases g : ySumL (yWm W b1) (yMv b1 c1) = 0
  · rw [if_pos g, if_pos g, w32_of (z := yNs b1 (yMv b1 c1) u + yRg b1 c1 u) (by omega) (by omega), w32_of (by omega) (by omega)]
  · rw [if_neg g] at p3
    rw [if_neg g, if_neg g, zcv_98, yr_269l (d + 2) (l := 1) (by decide) r3 hWM hu, zbs, zmG_v, zb_282_29, zgi_98, zbs, h25, w32_of (z := fee + yRg b1 c1 u) (by omega) (by omega), w32_of (z := yNs b1 (yMv b1 c1) u + yRg b1 c1 u) (by omega) (by omega), w32_of (z := yWm W b1 u * (fee + yRg b1 c1 u)) (by omega) (by omega), w32_of (z := (yNs b1 (yMv b1 c1) u + yRg b1 c1 u) * ySumL (yWm W b1) (yMv b1 c1)) (by omega) (by omega), w32_of (by omega) (by omega)]
end ZR
