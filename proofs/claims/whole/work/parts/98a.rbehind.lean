/-! foresight of the reference: behind a move, the answer to a reply -/
/-- a board on a level of the reference -/
def yRl (m : Nat → Int → Int) (l : Int) (b : Int → Int) (c : Int) : Prop := yPu b c ∧ yAg (zbd m l) b ∧ m 106 l = c
/-- what the moves of levels from l on use -/
def yPlv (l : Int) (x : Nat) (j : Int) : Prop := x = 105 ∧ 64 * l ≤ j ∨ x = 106 ∧ l ≤ j ∨ x = 107 ∧ 512 * l ≤ j ∨ x = 108 ∧ l ≤ j ∨ yS8 x j ∨ x = 98 ∧ 24 ≤ j ∧ j ≤ 25
theorem yPlv_le {l l' : Int} (h : l ≤ l') {m m' : Nat → Int → Int} (hf : yFq (yPlv l') m m') : yFq (yPlv l) m m' := fun x j hx => hf x j fun q => hx (by
  unfold yPlv at q ⊢
  rcases q with q | q | q | q | q | q
  · exact .inl ⟨q.1, by omega⟩
  · exact .inr (.inl ⟨q.1, by omega⟩)
  · exact .inr (.inr (.inl ⟨q.1, by omega⟩))
  · exact .inr (.inr (.inr (.inl ⟨q.1, by omega⟩)))
  · exact .inr (.inr (.inr (.inr (.inl q))))
  · exact .inr (.inr (.inr (.inr (.inr q)))))
theorem yPlv_hold : ∀ x j, yHoldR x j → ¬ yPlv 1 x j := fun x j h q => by
  unfold yHoldR at h
  unfold yPlv yS8 at q
  omega
theorem yPlv_fr {m m' : Nat → Int → Int} (h : yFq (yPlv 1) m m') : yFr 98 117 m m' := yFr_of h fun x j q => by
  unfold yPlv yS8 at q
  omega
theorem yPlv_s {l : Int} {m m' : Nat → Int → Int} (h : yFq yS8 m m') : yFq (yPlv l) m m' := fun x j hx => h x j fun q => hx (.inr (.inr (.inr (.inr (.inl q)))))
theorem yPlv_m {l : Int} {m m' : Nat → Int → Int} (h : yFq (yPm l) m m') : yFq (yPlv l) m m' := fun x j hx => h x j fun q => hx (by
  unfold yPm at q
  unfold yPlv
  omega)
theorem yRl_fr {l : Int} {b : Int → Int} {c : Int} {m m' : Nat → Int → Int} {P : Nat → Int → Prop} (h : yRl m l b c) (hf : yFq P m m') (h1 : ∀ j, 64 * l ≤ j → j < 64 * l + 64 → ¬ P 105 j) (h2 : ¬ P 106 l) : yRl m' l b c := by
  refine ⟨h.1, fun s s1 s2 => ?_, by rw [hf 106 l h2]; exact h.2.2⟩
  rw [← h.2.1 s s1 s2]
  exact hf 105 _ (h1 _ (by omega) (by omega))
theorem yRm_fq {l : Int} {xs : List Int} {m m' : Nat → Int → Int} {P : Nat → Int → Prop} (h : yRm m l xs) (hf : yFq P m m') (h1 : ∀ j, 512 * l ≤ j → j < 512 * l + 512 → ¬ P 107 j) (h2 : ¬ P 108 l) : yRm m' l xs := by
  refine ⟨by rw [hf 108 l h2]; exact h.1, h.2.1, fun i hi => ?_⟩
  rw [← h.2.2 i hi]
  have := h.2.1
  exact hf 107 _ (h1 _ (by omega) (by omega))
section ZR
variable {L : Nat} {m : Nat → Int → Int} (d : Nat) {w : Int → List Int} {b : Int → Int} {c n e : Int} {W F : Int → Int} {Z : Int → List Int}
theorem yRl_0 (h : yRs m w b c n e W F Z) : yRl m 0 b c := h.2.1
/-- a move made on the next level -/
theorem yr_274 {l : Int} (hl : 0 ≤ l ∧ l < 3) (h : yRl m l b c) {v : Int} (hv : v ∈ yMv b c) : ∃ m', zmD zP (d + 3) 274 [zr 98, zi l, zi v] (zW L m) = some (none, zW L m') ∧ yFq (yPlv (l + 1)) m m' ∧ yRl m' (l + 1) (yBv b v) (8 - c) := by
  obtain ⟨⟨v1, v2⟩, v3⟩ := yMv_go hv
  obtain ⟨hp, hb, hc⟩ := h
  have hcm : yCpM m l 106 (l + 1) = m 106 l := zup_self
  have hbd : yAg (zbd (yCpM m l) (l + 1)) b := fun s s1 s2 => (zbd_cpM ⟨s1, s2⟩).trans (hb s s1 s2)
  refine ⟨_, zk_274 d l v hl ⟨v1, v2⟩ (yPu_cg (yAg_sym hb) hp).1 (by rw [hc]; exact hp.2.2.2), ?_, yPu_bv hp hv, ?_, ?_⟩
  · unfold yMkM yApM yPutM yCpM
    refine yFq_up (yFq_up (yFq_up (yFq_up (fun x j hx => ?_) ?_) ?_) ?_) ?_
    · unfold yCpN
      exact if_neg fun q => hx (.inl ⟨q.1, by omega⟩)
    · exact .inr (.inl ⟨rfl, Int.le_refl _⟩)
    · exact .inl ⟨rfl, by omega⟩
    · exact .inl ⟨rfl, by omega⟩
    · exact .inr (.inl ⟨rfl, Int.le_refl _⟩)
  · have e1 : zbd (yMkM m l v) (l + 1) = yPut (zbd (yCpM m l) (l + 1)) (v / 64) (v % 64) := zbd_ap ⟨v1, v2⟩
    rw [e1]
    exact yPut_cg hbd ⟨by omega, by omega⟩
  · have e1 : yMkM m l v 106 (l + 1) = 8 - yCpM m l 106 (l + 1) := zup_self
    rw [e1, hcm, hc]
/-- the moves of a level listed -/
theorem yr_232l {l : Int} (hl : 0 ≤ l ∧ l < 3) (h : yRl m l b c) : ∃ m', zmD zP (d + 6) 232 [zr 98, zi l] (zW L m) = some (none, zW L m') ∧ yFq (yPm l) m m' ∧ yRl m' l b c ∧ yRm m' l (yMv b c) := by
  obtain ⟨hp, hb, hc⟩ := h
  obtain ⟨M, r1, r2, r3⟩ := yr_232 (L := L) d l hl (yPu_cg (yAg_sym hb) hp).1 (by rw [hc]; exact hp.2.2.2)
  rw [hc, yMv_cg hb] at r3
  exact ⟨M, r1, r2, yRl_fr ⟨hp, hb, hc⟩ r2 (fun j _ _ q => by unfold yPm at q; omega) (fun q => by unfold yPm at q; omega), r3⟩
/-- how many signs a move of a level needs -/
theorem yr_253l {l : Int} (hl : 0 ≤ l ∧ l < 3) (h : yRl m l b c) (hm : yRm m l (yMv b c)) {v : Int} (hv : v ∈ yMv b c) : ∃ m', zmD zP (d + 3) 253 [zr 98, zi l, zi v] (zW L m) = some (some (zi (yNs b (yMv b c) v)), zW L m') ∧ yFq yS8 m m' ∧ yRl m' l b c ∧ yRm m' l (yMv b c) := by
  obtain ⟨hp, hb, hc⟩ := h
  have hok := yPu_ok hp
  have hok0 := yOkv_cg (yAg_sym hb) hok
  obtain ⟨v1, -⟩ := hok v hv
  obtain ⟨M, r1, r2, -⟩ := zk_253 (L := L) (m := m) d l v hl hm hok0 (yPu_cg (yAg_sym hb) hp).1 (yMvs_asc 4096) hv
  rw [yNs_cg hb hok0 v1] at r1
  exact ⟨M, r1, r2, yRl_fr ⟨hp, hb, hc⟩ r2 (fun j _ _ q => by unfold yS8 at q; omega) (fun q => by unfold yS8 at q; omega), yRm_fq hm r2 (fun j _ _ q => by unfold yS8 at q; omega) (fun q => by unfold yS8 at q; omega)⟩
theorem yr_269l {l : Int} (hl : 0 ≤ l ∧ l < 3) (h : yRl m l b c) (hW : ∀ i : Int, 0 ≤ i → i < 6 → m 111 i = W i ∧ 0 ≤ W i ∧ W i ≤ 9) {v : Int} (hv : v ∈ yMv b c) : zmD zP (d + 1) 269 [zr 98, zi l, zi v] (zW L m) = some (some (zi (yWm W b v)), zW L m) := by
  obtain ⟨v1, v2⟩ := yPu_ok h.1 v hv
  exact zk_269 d l v hl v1 h.2.1 v2 (h.1.1 _ (by omega) (by omega)) hW
theorem yRm_i {l : Int} {xs : List Int} (h : yRm m l xs) {i : Nat} (hi : i < xs.length) : m 107 (512 * l + i) = xs.getD i 0 := h.2.2 i hi
/-- behind a move: its replies -/
theorem yr_273 (h : yRs m w b c n e W F Z) {v : Int} (hv : v ∈ yMv b c) : ∃ m', zmD zP (d + 7) 273 [zr 98, zi v] (zW L m) = some (none, zW L m') ∧ yFq (yPlv 1) m m' ∧ yRl m' 1 (yBv b v) (8 - c) ∧ yRm m' 1 (yMv (yBv b v) (8 - c)) := by
  obtain ⟨M, r1, r2, r3⟩ := yr_274 (L := L) (d + 3) (l := 0) (by decide) (yRl_0 h) hv
  obtain ⟨M2, s1, s2, s3, s4⟩ := yr_232l (L := L) (m := M) d (l := 1) (by decide) r3
  rw [zen_273, zb_273_0, zcv_98, r1, zbs, zmG_n, zb_273_6, zcv_98, s1, zbs, zmG_n, zb_273_11]
  exact ⟨M2, rfl, yFq_tr r2 (yPlv_m s2), s3, s4⟩
theorem yFp_s {f : Nat → Int} {n : Nat} : yFp f (n + 1) = if yFp f n = -1 ∨ f n < f (yFp f n).toNat then (n : Int) else yFp f n := rfl
/-- the answer to a reply -/
theorem yr_276 {b1 : Int → Int} {c1 u : Int} (h : yRl m 1 b1 c1) (hu : u ∈ yMv b1 c1) : ∃ m', zmD zP (d + 7) 276 [zr 98, zi u] (zW L m) = some (none, zW L m') ∧ yFq (yPlv 2) m m' ∧ m' 98 24 = yRaa b1 c1 u ∧ m' 98 25 = yRg b1 c1 u := by
  obtain ⟨M, r1, r2, r3⟩ := yr_274 (L := L) (d + 3) (l := 1) (by decide) h hu
  obtain ⟨M2, s1, s2, s3, s4⟩ := yr_232l (L := L) (m := M) d (l := 2) (by decide) r3
  unfold yRaa yRg
  have hpu := s3.1
  generalize yBv b1 u = b2 at *
  generalize 8 - c1 = c2 at *
  have hnn : ∀ v ∈ yMv b2 c2, 0 ≤ v := fun v hv => (yMv_go hv).1.1
  have hle := s4.2.1
  rw [zen_276, zb_276_0, zcv_98, r1, zbs, zmG_n, zb_276_6, zcv_98, s1, zbs, zmG_n, zb_276_11, zpi_98, zbs, zpi_98, zbs]
  have F0 : yFq (yPlv 2) m (zup (zup M2 98 24 (-1)) 98 25 0) := yFq_up (yFq_up (yFq_tr r2 (yPlv_m s2)) (.inr (.inr (.inr (.inr (.inr ⟨rfl, by decide, by decide⟩)))))) (.inr (.inr (.inr (.inr (.inr ⟨rfl, by decide, by decide⟩)))))
  have kx : yFq (fun x j => x = 98 ∧ 24 ≤ j ∧ j ≤ 25) M2 (zup (zup M2 98 24 (-1)) 98 25 0) := yFq_up (yFq_up yFq_rfl ⟨rfl, by decide, by decide⟩) ⟨rfl, by decide, by decide⟩
  have on0 := yRl_fr s3 kx (fun j _ _ q => absurd q.1 (by decide)) (fun q => absurd q.1 (by decide))
  have rm0 := yRm_fq s4 kx (fun j _ _ q => absurd q.1 (by decide)) (fun q => absurd q.1 (by decide))
  suffices go : ∀ (k i : Nat) (M3 : Nat → Int → Int) (o3 : Option zmV), i + k = (yMv b2 c2).length → yFq (yPlv 2) m M3 → yRl M3 2 b2 c2 → yRm M3 2 (yMv b2 c2) → M3 98 24 = (if yFp (fun i => yNs b2 (yMv b2 c2) ((yMv b2 c2).getD i 0)) i = -1 then -1 else (yMv b2 c2).getD (yFp (fun i => yNs b2 (yMv b2 c2) ((yMv b2 c2).getD i 0)) i).toNat 0) → M3 98 25 = (if yFp (fun i => yNs b2 (yMv b2 c2) ((yMv b2 c2).getD i 0)) i = -1 then 0 else yNs b2 (yMv b2 c2) ((yMv b2 c2).getD (yFp (fun i => yNs b2 (yMv b2 c2) ((yMv b2 c2).getD i 0)) i).toNat 0)) → ∃ m', zmE (zmD zP (d+6)) zc_276 (23, [some (zr 98), some (zi u), some (zi i), o3], [], zW L M3) = some (none, zW L m') ∧ yFq (yPlv 2) m m' ∧ m' 98 24 = yAm b2 (yMv b2 c2) ∧ m' 98 25 = yAs b2 (yMv b2 c2) from go (yMv b2 c2).length 0 _ none (by omega) F0 on0 rm0 (by rw [zup_ne2 (by decide), zup_self]; exact (if_pos rfl).symm) (by rw [zup_self]; exact (if_pos rfl).symm)
  intro k
  induction k with
  | zero =>
    intro i M3 o3 hi f1 f2 f3 f4 f5
    rw [show i = (yMv b2 c2).length by omega] at f4 f5 ⊢
    rw [zb_276_23, zgr_98_12, zbs, zai_108 (by decide) (by decide), zbs, f3.1, if_neg (by omega)]
    exact ⟨M3, rfl, f1, f4, f5⟩
  | succ k ih =>
    intro i M3 o3 hi f1 f2 f3 f4 f5
    have hv : (yMv b2 c2).getD i 0 ∈ yMv b2 c2 := yMem_get.mpr ⟨i, by omega, rfl⟩
    obtain ⟨M4, t1, t2, t3, t4⟩ := yr_253l (L := L) (m := M3) (d + 3) (l := 2) (by decide) f2 f3 hv
    have g24 : M4 98 24 = M3 98 24 := t2 98 24 (by unfold yS8; omega)
    have g25 : M4 98 25 = M3 98 25 := t2 98 25 (by unfold yS8; omega)
    have eat := yRm_i f3 (i := i) (by omega)
    have eat4 := yRm_i t4 (i := i) (by omega)
    have hns := yNs_in (b := b2) (xs := yMv b2 c2) (v := (yMv b2 c2).getD i 0)
    have F4 := yFq_tr f1 (yPlv_s t2)
    rw [zb_276_23, zgr_98_12, zbs, zai_108 (by decide) (by decide), zbs, f3.1, if_pos (by omega), zgr_98_11, zbs, w32_of (by omega) (by omega), zai_107 (by omega) (by omega), zbs, show (1024 : Int) + i = 512 * 2 + i by omega, eat, zcv_98, t1, zbs, zmG_v, zb_276_48, zgi_98, zbs, g24, f4]
    have take : (yFp (fun i => yNs b2 (yMv b2 c2) ((yMv b2 c2).getD i 0)) i = -1 ∨ yNs b2 (yMv b2 c2) ((yMv b2 c2).getD i 0) < yNs b2 (yMv b2 c2) ((yMv b2 c2).getD (yFp (fun i => yNs b2 (yMv b2 c2) ((yMv b2 c2).getD i 0)) i).toNat 0)) → ∃ m', zmE (zmD zP (d+6)) zc_276 (65, [some (zr 98), some (zi u), some (zi i), some (zi (yNs b2 (yMv b2 c2) ((yMv b2 c2).getD i 0)))], [], zW L M4) = some (none, zW L m') ∧ yFq (yPlv 2) m m' ∧ m' 98 24 = yAm b2 (yMv b2 c2) ∧ m' 98 25 = yAs b2 (yMv b2 c2) := fun g => by
      have ef : yFp (fun i => yNs b2 (yMv b2 c2) ((yMv b2 c2).getD i 0)) (i + 1) = i := by
        rw [yFp_s, if_pos g]
      have kx : yFq (fun x j => x = 98 ∧ 24 ≤ j ∧ j ≤ 25) M4 (zup (zup M4 98 24 ((yMv b2 c2).getD i 0)) 98 25 (yNs b2 (yMv b2 c2) ((yMv b2 c2).getD i 0))) := yFq_up (yFq_up yFq_rfl ⟨rfl, by decide, by decide⟩) ⟨rfl, by decide, by decide⟩
      rw [zb_276_65, zgr_98_11, zbs, w32_of (by omega) (by omega), zai_107 (by omega) (by omega), zbs, show (1024 : Int) + i = 512 * 2 + i by omega, eat4, zpi_98, zbs, zpi_98, zbs, zb_276_84, w32_of (by omega) (by omega)]
      refine ih (i + 1) _ _ (by omega) (yFq_tr F4 fun x j hx => kx x j fun q => hx (.inr (.inr (.inr (.inr (.inr q)))))) (yRl_fr t3 kx (fun j _ _ q => absurd q.1 (by decide)) (fun q => absurd q.1 (by decide))) (yRm_fq t4 kx (fun j _ _ q => absurd q.1 (by decide)) (fun q => absurd q.1 (by decide))) ?_ ?_
      · rw [zup_ne2 (by decide), zup_self, ef, if_neg (by omega), Int.toNat_natCast]
      · rw [zup_self, ef, if_neg (by omega), Int.toNat_natCast]
    by_cases g : yFp (fun i => yNs b2 (yMv b2 c2) ((yMv b2 c2).getD i 0)) i = -1
    · rw [if_pos g, if_pos rfl]
      exact take (.inl g)
    · rcases yFp_lt (f := fun i => yNs b2 (yMv b2 c2) ((yMv b2 c2).getD i 0)) (n := i) with ⟨-, q⟩ | ⟨p, q1, q2⟩
      · exact absurd q g
      · have := hnn _ (yMem_get.mpr ⟨p, by omega, rfl⟩ : (yMv b2 c2).getD p 0 ∈ yMv b2 c2)
        rw [if_neg g] at f5
        rw [if_neg g, if_neg (by rw [q1, Int.toNat_natCast]; omega), zgi_98, zbs, g25, f5]
        by_cases g2 : yNs b2 (yMv b2 c2) ((yMv b2 c2).getD i 0) < yNs b2 (yMv b2 c2) ((yMv b2 c2).getD (yFp (fun i => yNs b2 (yMv b2 c2) ((yMv b2 c2).getD i 0)) i).toNat 0)
        · rw [if_pos g2]
          exact take (.inr g2)
        · have ef : yFp (fun i => yNs b2 (yMv b2 c2) ((yMv b2 c2).getD i 0)) (i + 1) = yFp (fun i => yNs b2 (yMv b2 c2) ((yMv b2 c2).getD i 0)) i := by
            rw [yFp_s, if_neg]
            rintro (q | q)
            · exact g q
            · exact g2 q
          rw [if_neg g2, zb_276_84, w32_of (by omega) (by omega)]
          refine ih (i + 1) M4 _ (by omega) F4 t3 t4 ?_ ?_
          · rw [g24, f4, ef]
          · rw [g25, f5, ef, if_neg g]
end ZR
