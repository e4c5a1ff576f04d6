/-! shortest, all, means, could of the reference -/
section ZR
variable {L : Nat} {m m' : Nat → Int → Int} (d : Nat) {w : Int → List Int} {b : Int → Int} {c n e : Int} {W F : Int → Int} {Z : Int → List Int}
theorem yS8_hold : ∀ x j, yHoldR x j → ¬ yS8 x j := fun x j h q => by
  unfold yHoldR at h
  unfold yS8 at q
  omega
theorem yS5_hold : ∀ x j, yHoldR x j → ¬ yS5 x j := fun x j h q => by
  unfold yHoldR at h
  unfold yS5 at q
  omega
theorem yS8_fr {m m' : Nat → Int → Int} (h : yFq yS8 m m') : yFr 98 117 m m' := yFr_of h fun x j q => by
  unfold yS8 at q
  omega
theorem yS5_fr {m m' : Nat → Int → Int} (h : yFq yS5 m m') : yFr 98 117 m m' := yFr_of h fun x j q => by
  unfold yS5 at q
  omega
/-- findShortest at level 0, of a move that is lawful now -/
theorem yr_253 (h : yRs m w b c n e W F Z) (hm : yRm m 0 (yMv b c)) (v : Int) (hv : v ∈ yMv b c) : ∃ m', zmD zP (d + 3) 253 [zr 98, zi 0, zi v] (zW L m) = some (some (zi (yNs b (yMv b c) v)), zW L m') ∧ yFq yS8 m m' ∧ yRs m' w b c n e W F Z ∧ yRm m' 0 (yMv b c) ∧ yBs m' (yShS b (yMv b c) v) := by
  obtain ⟨k1, k2, k3⟩ := yRs_bd h
  have hok := yPu_ok h.2.1.1
  have hag := h.2.1.2.1
  have hok0 := yOkv_cg (yAg_sym hag) hok
  obtain ⟨v1, -⟩ := hok v hv
  obtain ⟨M, r1, r2, r3⟩ := zk_253 (L := L) (m := m) d 0 v (by decide) hm hok0 k1 (yMvs_asc 4096) hv
  rw [yNs_cg hag hok0 v1] at r1
  rw [yFm_cg hag hok0 v1, hag (v / 64) (by omega) (by omega)] at r3
  exact ⟨M, r1, r2, yRs_fr h r2 yS8_hold, yRm_fr hm r2 fun j => yS8_no.2, r3⟩
theorem yr_252 (h : yRs m w b c n e W F Z) (v i : Int) (hv : v ∈ yMv b c) (hi : -1 ≤ i) : ∃ m', zmD zP (d + 7) 252 [zr 98, zi v, zi i] (zW L m) = some (some (zi (if i = -1 then yNs b (yMv b c) v else yGet (yShS b (yMv b c) v) i)), zW L m') ∧ yFr 98 117 m m' ∧ yRs m' w b c n e W F Z ∧ yBs m' (yShS b (yMv b c) v) := by
  obtain ⟨M, r1, r2, r3, r4⟩ := yr_now (L := L) d h
  obtain ⟨M2, s1, s2, s3, s4, s5⟩ := yr_253 (L := L) (m := M) (d + 3) r3 r4 v hv
  have hl := yShS_len (b := b) (xs := yMv b c) (v := v)
  have hn := yNs_in (b := b) (xs := yMv b c) (v := v)
  rw [zen_252, zb_252_0, zcv_98, r1, zbs, zmG_n, zb_252_5, zcv_98, s1, zbs, zmG_v, zb_252_11]
  refine ⟨M2, ?_, yFr_tr (yPm_fr r2) (yS8_fr s2), s3, s5⟩
  by_cases g : i = -1
  · rw [if_pos g, if_pos g, zgi_98, zbs, s5.1, hl]
  · rw [if_neg g, if_neg g, zgi_98, zbs, s5.1]
    unfold yGet
    by_cases g2 : i < (yShS b (yMv b c) v).length
    · have e1 := s5.2 i.toNat (by omega)
      rw [show ((i.toNat : Nat) : Int) = i by omega] at e1
      rw [if_pos g2, if_pos ⟨by omega, g2⟩, zgr_98_18, zbs, zai_109 (by omega) (by omega), zbs, e1]
    · rw [if_neg g2, if_neg (by omega)]
theorem yr_251 (h : yRs m w b c n e W F Z) (v i : Int) : ∃ m', zmD zP (d + 8) 251 [zr 98, zi v, zi i] (zW L m) = some (some (zi (if (0 ≤ v ∧ v < 4096) ∧ -1 ≤ i then (if yT (v ∈ yMv b c) = 0 then -3 else if i = -1 then yNs b (yMv b c) v else yGet (yShS b (yMv b c) v) i) else -2)), zW L m') ∧ yFr 98 117 m m' ∧ yRs m' w b c n e W F Z := by
  rw [zen_251, zb_251_0, zk_244, zbs, zmG_v, zb_251_4]
  by_cases g : 0 ≤ v ∧ v < 4096
  · rw [if_neg (fun q => zB_z.mp q ⟨g.1, by omega⟩)]
    by_cases g2 : i < -1
    · rw [if_pos g2, if_neg (by omega)]
      exact ⟨m, rfl, yFr_rfl, h⟩
    · rw [if_neg g2, if_pos (show (0 ≤ v ∧ v < 4096) ∧ -1 ≤ i from ⟨g, by omega⟩), z_div_of g.1 (by omega) (by decide), z_rem_of g.1 (by omega) (by decide) (by decide), zcv_98, yr_234 (d + 2) h v g, zbs, zmG_v, zb_251_28]
      by_cases g3 : v ∈ yMv b c
      · obtain ⟨M, r1, r2, r3, -⟩ := yr_252 (L := L) d h v i g3 (by omega)
        rw [yT_pos g3, if_neg (c := (1 : Int) = 0) (by decide), if_neg (c := (1 : Int) = 0) (by decide), zcv_98, r1, zbs, zmG_v, zb_251_37]
        exact ⟨M, rfl, r2, r3⟩
      · rw [yT_neg g3, if_pos rfl, if_pos rfl]
        exact ⟨m, rfl, yFr_rfl, h⟩
  · rw [if_pos (zB_z.mpr (by omega)), if_neg (fun q => g q.1)]
    exact ⟨m, rfl, yFr_rfl, h⟩
theorem yRm_at {m : Nat → Int → Int} {xs : List Int} (h : yRm m 0 xs) {i : Nat} (hi : i < xs.length) : m 107 i = xs.getD i 0 := by
  have := h.2.2 i hi
  rw [show (512 : Int) * 0 + (i : Int) = i by omega] at this
  exact this
theorem yr_260 (h : yRs m w b c n e W F Z) : ∃ m', zmD zP (d + 7) 260 [zr 98] (zW L m) = some (some (zi (ySumL (yNs b (yMv b c)) (yMv b c))), zW L m') ∧ yFr 98 117 m m' ∧ yRs m' w b c n e W F Z := by
  obtain ⟨M, r1, r2, r3, r4⟩ := yr_now (L := L) d h
  have hle := r4.2.1
  rw [zen_260, zb_260_0, zcv_98, r1, zbs, zmG_n, zb_260_5]
  suffices go : ∀ k i : Nat, i + k = (yMv b c).length → ∀ M2 : Nat → Int → Int, yFr 98 117 m M2 → yRs M2 w b c n e W F Z → yRm M2 0 (yMv b c) → ∃ m', zmE (zmD zP (d+6)) zc_260 (9, [some (zr 98), some (zi (ySumL (yNs b (yMv b c)) ((yMv b c).take i))), some (zi i)], [], zW L M2) = some (some (zi (ySumL (yNs b (yMv b c)) (yMv b c))), zW L m') ∧ yFr 98 117 m m' ∧ yRs m' w b c n e W F Z from go (yMv b c).length 0 (by omega) M (yPm_fr r2) r3 r4
  intro k
  induction k with
  | zero =>
    intro i hi M2 f1 f2 f3
    rw [zb_260_9, zgr_98_12, zbs, zai_108 (by decide) (by decide), zbs, f3.1, if_neg (by omega), show i = (yMv b c).length by omega, List.take_length]
    exact ⟨M2, rfl, f1, f2⟩
  | succ k ih =>
    intro i hi M2 f1 f2 f3
    obtain ⟨M3, s1, s2, s3, s4, s5⟩ := yr_253 (L := L) (m := M2) (d + 3) f2 f3 ((yMv b c).getD i 0) (yMem_get.mpr ⟨i, by omega, rfl⟩)
    have hs := ySumL_in (f := yNs b (yMv b c)) (c := 4) ((yMv b c).take i) fun x _ => by have := yNs_in (b := b) (xs := yMv b c) (v := x); omega
    have hli : ((yMv b c).take i).length ≤ 512 := by rw [List.length_take]; omega
    have hn := yNs_in (b := b) (xs := yMv b c) (v := (yMv b c).getD i 0)
    rw [zb_260_9, zgr_98_12, zbs, zai_108 (by decide) (by decide), zbs, f3.1, if_pos (by omega), zgr_98_11, zbs, zai_107 (by omega) (by omega), zbs, yRm_at f3 (by omega), zcv_98, s1, zbs, zmG_v, zb_260_31, w32_of (by omega) (by omega), w32_of (by omega) (by omega), ← ySumL_take (f := yNs b (yMv b c)) (show i < (yMv b c).length by omega)]
    have q := ih (i + 1) (by omega) M3 (yFr_tr f1 (yS8_fr s2)) s3 s4
    rw [Int.natCast_succ] at q
    exact q
theorem yr_259 (h : yRs m w b c n e W F Z) : ∃ m', zmD zP (d + 8) 259 [zr 98] (zW L m) = some (some (zi (ySumL (yNs b (yMv b c)) (yMv b c))), zW L m') ∧ yFr 98 117 m m' ∧ yRs m' w b c n e W F Z := by
  obtain ⟨M, r1, r2, r3⟩ := yr_260 (L := L) d h
  rw [zen_259, zb_259_0, zcv_98, r1, zbs, zmG_v, zb_259_4]
  exact ⟨M, rfl, r2, r3⟩
theorem yr_262 (h : yRs m w b c n e W F Z) (i : Int) (hi1 : -1 ≤ i) : ∃ m', zmD zP (d + 7) 262 [zr 98, zi i] (zW L m) = some (some (zi (yAsk ((yMv b c).filter (yMean b (w 1))) i)), zW L m') ∧ yFr 98 117 m m' ∧ yRs m' w b c n e W F Z := by
  obtain ⟨M, r1, r2, r3, r4⟩ := yr_now (L := L) d h
  obtain ⟨M2, s1, s2, s3⟩ := zk_218 (L := L) (m := M) (d + 1) r3.1.2.1
  have r3' := yRs_fr r3 s2 yS5_hold
  have r4' : yRm M2 0 (yMv b c) := yRm_fr r4 s2 fun j => ⟨fun q => absurd q.1 (by decide), fun q => absurd q.1 (by decide)⟩
  have hok := yPu_ok h.2.1.1
  have hle := r4.2.1
  have hag := r3'.2.1.2.1
  have hB0 := (yRs_bd r3').1
  have hF := yFr_tr (yPm_fr r2) (yS5_fr s2)
  unfold yAsk
  rw [if_neg (by omega), zen_262, zb_262_0, zcv_98, r1, zbs, zmG_n, zb_262_5, zcv_98, s1, zbs, zmG_v, zb_262_9]
  by_cases g : yRun 0 (w 1) 0 = -1
  · rw [if_pos g]
    suffices go : ∀ k j : Nat, j + k = (yMv b c).length → (i = -1 ∨ ((((yMv b c).take j).filter (yMean b (w 1))).length : Int) ≤ i) → zmE (zmD zP (d+6)) zc_262 (28, [some (zr 98), some (zi i), some (zi ((((yMv b c).take j).filter (yMean b (w 1))).length)), some (zi j)], [], zW L M2) = some (some (zi (if i = -1 then ((yMv b c).filter (yMean b (w 1))).length else yGet ((yMv b c).filter (yMean b (w 1))) i)), zW L M2) from ⟨M2, go (yMv b c).length 0 (by omega) (by rw [List.take_zero, List.filter_nil, List.length_nil]; omega), hF, r3'⟩
    intro k
    induction k with
    | zero =>
      intro j hj hi
      rw [zb_262_28, zgr_98_12, zbs, zai_108 (by decide) (by decide), zbs, r4'.1, if_neg (by omega)]
      rw [show j = (yMv b c).length by omega, List.take_length] at hi ⊢
      by_cases g2 : i = -1
      · rw [if_pos g2, if_pos g2]
      · unfold yGet
        rw [if_neg g2, if_neg g2, if_neg (by omega)]
    | succ k ih =>
      intro j hj hi
      obtain ⟨o1, o2, o3⟩ := yOkv_get hok (i := j) (by omega)
      have hfl := List.length_filter_le (yMean b (w 1)) ((yMv b c).take j)
      rw [List.length_take] at hfl
      have q := ih (j + 1) (by omega)
      rw [yfilt_take (by omega), List.length_append, Int.natCast_succ, Int.natCast_add] at q
      have ev := yRm_at r4' (i := j) (by omega)
      have hfit : yFit9 M2 (zbd M2 0) ((yMv b c).getD j 0) ↔ yFits (w 1) (b ((yMv b c).getD j 0 / 64) % 8 - 1) ((yMv b c).getD j 0) := by
        unfold yFit9
        rw [hag ((yMv b c).getD j 0 / 64) (by omega) (by omega)]
        exact s3 g _ _ ⟨by omega, by omega⟩ o1
      rw [zb_262_28, zgr_98_12, zbs, zai_108 (by decide) (by decide), zbs, r4'.1, if_pos (by omega), zgr_98_11, zbs, zai_107 (by omega) (by omega), zbs, ev, zcv_98, zk_258 (d + 5) 0 _ (by decide) o1 (hB0 _ (by omega) (by omega)), zbs, zmG_v, zb_262_49, yT_c hfit]
      have hpm : yMean b (w 1) ((yMv b c).getD j 0) = true ↔ yFits (w 1) (b ((yMv b c).getD j 0 / 64) % 8 - 1) ((yMv b c).getD j 0) := yT_1
      by_cases g2 : yFits (w 1) (b ((yMv b c).getD j 0 / 64) % 8 - 1) ((yMv b c).getD j 0)
      · rw [if_pos (hpm.mpr g2)] at q
        rw [yT_pos g2, if_neg (c := (1 : Int) = 0) (by decide)]
        by_cases g3 : ((((yMv b c).take j).filter (yMean b (w 1))).length : Int) = i
        · have hp := yPick (xs := yMv b c) (p := yMean b (w 1)) (k := j) (by omega) (hpm.mpr g2)
          rw [g3] at hp
          rw [if_pos g3, zgr_98_11, zbs, zai_107 (by omega) (by omega), zbs, ev, if_neg (by omega), hp]
        · rw [if_neg g3, zb_262_67, w32_of (by omega) (by omega), w32_of (by omega) (by omega)]
          exact q (by show i = -1 ∨ _ + ((1 : Nat) : Int) ≤ i; omega)
      · rw [if_neg (fun k => g2 (hpm.mp k))] at q
        rw [yT_neg g2, if_pos rfl, zb_262_67, w32_of (by omega) (by omega)]
        have q' := q (by show i = -1 ∨ _ + ((0 : Nat) : Int) ≤ i; omega)
        rw [show ((([] : List Int).length : Nat) : Int) = 0 from rfl, Int.add_zero] at q'
        exact q'
  · have hno : (yMv b c).filter (yMean b (w 1)) = [] := by
      refine List.filter_eq_nil_iff.mpr fun v _ q => ?_
      have := (yT_1.mp q).1
      exact g ((yPar_run (w 1) 0 0 0 0 (by decide)).mpr this)
    rw [if_neg g, hno]
    refine ⟨M2, ?_, hF, r3'⟩
    by_cases g2 : i = -1
    · rw [if_pos g2, if_pos g2]
      rfl
    · rw [if_neg g2, if_neg g2]
      unfold yGet
      rw [if_neg]
      show ¬ (0 ≤ i ∧ i < ((0 : Nat) : Int))
      omega
theorem yr_261 (h : yRs m w b c n e W F Z) (i : Int) : ∃ m', zmD zP (d + 8) 261 [zr 98, zi i] (zW L m) = some (some (zi (yAsk ((yMv b c).filter (yMean b (w 1))) i)), zW L m') ∧ yFr 98 117 m m' ∧ yRs m' w b c n e W F Z := by
  rw [zen_261, zb_261_0]
  by_cases g : i < -1
  · rw [if_pos g]
    unfold yAsk
    rw [if_pos g]
    exact ⟨m, rfl, yFr_rfl, h⟩
  · obtain ⟨M, r1, r2, r3⟩ := yr_262 (L := L) d h i (by omega)
    rw [if_neg g, zcv_98, r1, zbs, zmG_v, zb_261_10]
    exact ⟨M, rfl, r2, r3⟩
theorem zk_265 {S u : List Int} (hu : yRt m 1 u) (hS : yBs m S) (hl : S.length ≤ 5) : zmD zP (d + 3) 265 [zr 98] (zW L m) = some (some (zi (yT (yNear u S))), zW L m) := by
  have hcap : u.length ≤ 10 := hu.2.2.1
  unfold yNear
  rw [zen_265, zb_265_0]
  by_cases g : S.length = u.length
  · suffices go : ∀ k a : Nat, a + k = S.length → zmE (zmD zP (d+2)) zc_265 (4, [some (zr 98), some (zi (yDif S u a)), some (zi a)], [], zW L m) = some (some (zi (yT (S.length = u.length ∧ yDif S u u.length = 1))), zW L m) from go S.length 0 (by omega)
    intro k
    induction k with
    | zero =>
      intro a ha
      rw [zb_265_4, zgi_98, zbs, hS.1, if_neg (by omega), zb_265_54, show a = u.length by omega]
      by_cases g2 : yDif S u u.length = 1
      · rw [if_pos (by omega), yT_pos ⟨g, g2⟩]
      · rw [if_neg (by omega), yT_neg (fun q => g2 q.2)]
    | succ k ih =>
      intro a ha
      have hd := yDif_le (s := S) (u := u) a
      have q := ih (a + 1) (by omega)
      have ed : yDif S u (a + 1) = yDif S u a + if S.getD a 0 = u.getD a 0 then 0 else 1 := rfl
      rw [ed, Int.natCast_succ, Int.natCast_add] at q
      rw [zb_265_4, zgi_98, zbs, hS.1, if_pos (by omega), zbs, zgr_98_6, zbs, zai_104 (by decide) (by decide), zbs, hu.2.1, if_pos (by omega), zgr_98_18, zbs, zai_109 (by omega) (by omega), zbs, zcv_98, zk_197t d hu _ (by omega), zbs, zmG_v, zb_265_38, hS.2 a (by omega), yGet_at (by omega)]
      by_cases g2 : S.getD a 0 = u.getD a 0
      · rw [if_pos g2] at q
        rw [if_pos g2, zb_265_46, w32_of (by omega) (by omega), w32_of (by omega) (by omega)]
        exact q
      · rw [if_neg g2] at q
        rw [if_neg g2, zb_265_46, w32_of (by omega) (by omega), w32_of (by omega) (by omega)]
        exact q
  · have e4 : zmE (zmD zP (d+2)) zc_265 (4, [some (zr 98), some (zi 0), some (zi 0)], [], zW L m) = zmE (zmD zP (d+2)) zc_265 (54, [some (zr 98), some (zi 0), some (zi 0)], [], zW L m) := by
      rw [zb_265_4, zgi_98, zbs, hS.1]
      by_cases g2 : (0 : Int) < S.length
      · rw [if_pos g2, zbs, zgr_98_6, zbs, zai_104 (by decide) (by decide), zbs, hu.2.1, if_neg (by omega)]
      · rw [if_neg g2]
    rw [e4, zb_265_54, if_neg (by decide), yT_neg (fun q => g q.1)]
theorem yr_264 (h : yRs m w b c n e W F Z) (i : Int) (hi1 : -1 ≤ i) : ∃ m', zmD zP (d + 7) 264 [zr 98, zi i] (zW L m) = some (some (zi (yAsk ((yMv b c).filter (yCould b (yMv b c) (w 1))) i)), zW L m') ∧ yFr 98 117 m m' ∧ yRs m' w b c n e W F Z := by
  obtain ⟨M, r1, r2, r3, r4⟩ := yr_now (L := L) d h
  have hle := r4.2.1
  unfold yAsk
  rw [if_neg (by omega), zen_264, zb_264_0, zcv_98, r1, zbs, zmG_n, zb_264_5]
  suffices go : ∀ k j : Nat, j + k = (yMv b c).length → (i = -1 ∨ ((((yMv b c).take j).filter (yCould b (yMv b c) (w 1))).length : Int) ≤ i) → ∀ M2 : Nat → Int → Int, yFr 98 117 m M2 → yRs M2 w b c n e W F Z → yRm M2 0 (yMv b c) → ∃ m', zmE (zmD zP (d+6)) zc_264 (9, [some (zr 98), some (zi i), some (zi ((((yMv b c).take j).filter (yCould b (yMv b c) (w 1))).length)), some (zi j)], [], zW L M2) = some (some (zi (if i = -1 then ((yMv b c).filter (yCould b (yMv b c) (w 1))).length else yGet ((yMv b c).filter (yCould b (yMv b c) (w 1))) i)), zW L m') ∧ yFr 98 117 m m' ∧ yRs m' w b c n e W F Z from go (yMv b c).length 0 (by omega) (by rw [List.take_zero, List.filter_nil, List.length_nil]; omega) M (yPm_fr r2) r3 r4
  intro k
  induction k with
  | zero =>
    intro j hj hi M2 f1 f2 f3
    rw [zb_264_9, zgr_98_12, zbs, zai_108 (by decide) (by decide), zbs, f3.1, if_neg (by omega)]
    rw [show j = (yMv b c).length by omega, List.take_length] at hi ⊢
    refine ⟨M2, ?_, f1, f2⟩
    by_cases g2 : i = -1
    · rw [if_pos g2, if_pos g2]
    · unfold yGet
      rw [if_neg g2, if_neg g2, if_neg (by omega)]
  | succ k ih =>
    intro j hj hi M2 f1 f2 f3
    have hfl := List.length_filter_le (yCould b (yMv b c) (w 1)) ((yMv b c).take j)
    rw [List.length_take] at hfl
    obtain ⟨M3, s1, s2, s3, s4, s5⟩ := yr_253 (L := L) (m := M2) (d + 3) f2 f3 ((yMv b c).getD j 0) (yMem_get.mpr ⟨j, by omega, rfl⟩)
    have hlen := yShS_len (b := b) (xs := yMv b c) (v := (yMv b c).getD j 0)
    have hn := yNs_in (b := b) (xs := yMv b c) (v := (yMv b c).getD j 0)
    have hF3 := yFr_tr f1 (yS8_fr s2)
    have q := ih (j + 1) (by omega)
    rw [yfilt_take (by omega), List.length_append, Int.natCast_succ, Int.natCast_add] at q
    rw [zb_264_9, zgr_98_12, zbs, zai_108 (by decide) (by decide), zbs, f3.1, if_pos (by omega), zgr_98_11, zbs, zai_107 (by omega) (by omega), zbs, yRm_at f3 (by omega), zcv_98, s1, zbs, zmG_v, zb_264_30, zcv_98, zk_265 (d + 3) s3.1.2.1 s5 (by omega), zbs, zmG_v, zb_264_35]
    have hpm : yCould b (yMv b c) (w 1) ((yMv b c).getD j 0) = true ↔ yNear (w 1) (yShS b (yMv b c) ((yMv b c).getD j 0)) := yT_1
    by_cases g2 : yNear (w 1) (yShS b (yMv b c) ((yMv b c).getD j 0))
    · rw [if_pos (hpm.mpr g2)] at q
      rw [yT_pos g2, if_neg (c := (1 : Int) = 0) (by decide)]
      by_cases g3 : ((((yMv b c).take j).filter (yCould b (yMv b c) (w 1))).length : Int) = i
      · have hp := yPick (xs := yMv b c) (p := yCould b (yMv b c) (w 1)) (k := j) (by omega) (hpm.mpr g2)
        rw [g3] at hp
        rw [if_pos g3, zgr_98_11, zbs, zai_107 (by omega) (by omega), zbs, yRm_at s4 (by omega), if_neg (by omega), hp]
        exact ⟨M3, rfl, hF3, s3⟩
      · rw [if_neg g3, zb_264_53, w32_of (by omega) (by omega), w32_of (by omega) (by omega)]
        exact q (by show i = -1 ∨ _ + ((1 : Nat) : Int) ≤ i; omega) M3 hF3 s3 s4
    · rw [if_neg (fun k => g2 (hpm.mp k))] at q
      rw [yT_neg g2, if_pos rfl, zb_264_53, w32_of (by omega) (by omega)]
      have q' := q (by show i = -1 ∨ _ + ((0 : Nat) : Int) ≤ i; omega)
      rw [show ((([] : List Int).length : Nat) : Int) = 0 from rfl, Int.add_zero] at q'
      exact q' M3 hF3 s3 s4
theorem yr_263 (h : yRs m w b c n e W F Z) (i : Int) : ∃ m', zmD zP (d + 8) 263 [zr 98, zi i] (zW L m) = some (some (zi (yAsk ((yMv b c).filter (yCould b (yMv b c) (w 1))) i)), zW L m') ∧ yFr 98 117 m m' ∧ yRs m' w b c n e W F Z := by
  rw [zen_263, zb_263_0]
  by_cases g : i < -1
  · rw [if_pos g]
    unfold yAsk
    rw [if_pos g]
    exact ⟨m, rfl, yFr_rfl, h⟩
  · obtain ⟨M, r1, r2, r3⟩ := yr_264 (L := L) d h i (by omega)
    rw [if_neg g, zcv_98, r1, zbs, zmG_v, zb_263_10]
    exact ⟨M, rfl, r2, r3⟩
end ZR
