/-! disputes of the reference: a reading comes, the moves that fit are listed -/
def yPz (l : Int) (x : Nat) (j : Int) : Prop := x = 105 ∧ 64 * l ≤ j ∨ x = 106 ∧ l ≤ j ∨ x = 107 ∧ 512 * l ≤ j ∨ x = 108 ∧ l ≤ j ∨ x = 98 ∧ (13 ≤ j ∧ j ≤ 17 ∨ j = 34 ∨ j = 37) ∨ x = 116 ∨ x = 117
theorem yPz_le {l l' : Int} (h : l ≤ l') {m m' : Nat → Int → Int} (hf : yFq (yPz l') m m') : yFq (yPz l) m m' := yFq_wd hf fun x j q => by
  unfold yPz at q ⊢
  omega
/-- the readings that came so far -/
def yRq (m : Nat → Int → Int) (RS : List (List Int)) : Prop := m 98 34 = RS.length ∧ (∀ k : Nat, k < 3 → m 116 k = yFs RS k) ∧ ∀ k : Nat, k < 3 → ∀ v : Int, 0 ≤ v → v < 4096 → m 117 (4096 * k + v) = yT (yMks 0 RS k v)
theorem yRq_fr {P : Nat → Int → Prop} {m m' : Nat → Int → Int} {RS : List (List Int)} (h : yRq m RS) (hf : yFq P m m') (h1 : ¬ P 98 34) (h2 : ∀ j, ¬ P 116 j ∧ ¬ P 117 j) : yRq m' RS := by
  refine ⟨by rw [hf 98 34 h1]; exact h.1, fun k hk => by rw [hf 116 k (h2 _).1]; exact h.2.1 k hk, fun k hk v v1 v2 => by rw [hf 117 _ (h2 _).2]; exact h.2.2 k hk v v1 v2⟩
/-- the game as the reference keeps it -/
def yCx (m : Nat → Int → Int) (w : List Int) : Prop := yRt m 2 w ∧ m 98 27 = (yGa w).length ∧ ((yGa w).length ≠ 0 → yGa w = yPcs w ∧ ∀ j : Nat, j ≤ (yPcs w).length → m 114 j = yOff (yPcs w) j)
theorem yCx_fr {P : Nat → Int → Prop} {m m' : Nat → Int → Int} {w : List Int} (h : yCx m w) (hf : yFq P m m') (h1 : ∀ j, ¬ P 103 j ∧ ¬ P 104 j) (h2 : ¬ P 98 27) (h3 : ∀ j, ¬ P 114 j) : yCx m' w := by
  refine ⟨yRt_fr h.1 hf h1, by rw [hf 98 27 h2]; exact h.2.1, fun q => ⟨(h.2.2 q).1, fun j hj => ?_⟩⟩
  rw [hf 114 j (h3 _)]
  exact (h.2.2 q).2 j hj
theorem yCx_z {l : Int} {m m' : Nat → Int → Int} {w : List Int} (h : yCx m w) (hf : yFq (yPz l) m m') : yCx m' w := yCx_fr h hf (fun j => by unfold yPz; omega) (by unfold yPz; omega) fun j => by unfold yPz; omega
section ZR
variable {L : Nat} {m : Nat → Int → Int} (d : Nat)
theorem zk_298 (k : Nat) (hk : k < 3) (x : Int) (hx : x = -1 ∨ 0 ≤ x ∧ x < 4096) : ∃ m', zmD zP (d + 1) 298 [zr 98, zi k, zi x] (zW L m) = some (none, zW L m') ∧ yFq (fun x _ => x = 117) m m' ∧ ∀ k' : Nat, k' < 3 → ∀ v : Int, 0 ≤ v → v < 4096 → m' 117 (4096 * k' + v) = if k' = k ∧ v = x then 1 else m 117 (4096 * k' + v) := by
  rw [zen_298, zb_298_0]
  by_cases g : x = -1
  · rw [if_pos g]
    exact ⟨m, rfl, yFq_rfl, fun k' _ v v1 _ => by rw [if_neg (by omega)]⟩
  · rw [if_neg g, zgr_98_36, zbs, w32_of (z := 4096 * (k : Int)) (by omega) (by omega), w32_of (by omega) (by omega), zsz_117 (by omega) (by omega) (.inr rfl), zbs]
    refine ⟨_, rfl, yFq_up yFq_rfl rfl, fun k' hk' v v1 v2 => ?_⟩
    by_cases g2 : k' = k ∧ v = x
    · rw [if_pos g2, g2.1, g2.2, zup_self]
    · rw [if_neg g2, zup_ne2 (fun q => g2 ⟨by omega, by omega⟩)]
theorem yMks_one {RS : List (List Int)} {s : List Int} {k : Nat} {v : Int} (hv : 0 ≤ v) : yMks 0 (RS ++ [s]) k v ↔ yMks 0 RS k v ∨ v = s.getD k (-1) := by
  rw [yMks_app]
  refine or_congr Iff.rfl ⟨?_, fun q => ?_⟩
  · rintro ⟨t, t1, t2, t3, t4⟩
    rw [List.mem_singleton.mp t1] at t3 t4
    rw [← t4, Nat.sub_zero, List.getD_eq_getElem?_getD, List.getD_eq_getElem?_getD, List.getElem?_eq_getElem (by omega)]
    rfl
  · have hk : k < s.length := Classical.byContradiction fun c => by
      rw [ygdn (by omega)] at q
      omega
    refine ⟨s, List.mem_singleton.mpr rfl, Nat.zero_le _, by omega, ?_⟩
    rw [q, Nat.sub_zero, List.getD_eq_getElem?_getD, List.getD_eq_getElem?_getD, List.getElem?_eq_getElem hk]
    rfl
/-- a reading comes -/
theorem zk_297 {RS : List (List Int)} (h : yRq m RS) (hl : RS.length ≤ 100000) {s : List Int} (hs : ∀ k : Nat, k < 3 → s.getD k (-1) = -1 ∨ 0 ≤ s.getD k (-1) ∧ s.getD k (-1) < 4096) (a0 a1 a2 : Int) (e0 : a0 = s.getD 0 (-1)) (e1 : a1 = s.getD 1 (-1)) (e2 : a2 = s.getD 2 (-1)) : ∃ m', zmD zP (d + 2) 297 [zr 98, zi a0, zi a1, zi a2] (zW L m) = some (none, zW L m') ∧ yFq (fun x j => x = 98 ∧ j = 34 ∨ x = 116 ∨ x = 117) m m' ∧ yRq m' (RS ++ [s]) := by
  subst e0 e1 e2
  obtain ⟨h1, h2, h3⟩ := h
  have b0 := hs 0 (by decide)
  have b1 := hs 1 (by decide)
  have b2 := hs 2 (by decide)
  rw [zen_297, zb_297_0, zgi_98, zbs, h1]
  have rest : ∀ M : Nat → Int → Int, yFq (fun x j => x = 116) m M → (∀ k : Nat, k < 3 → M 116 k = yFs (RS ++ [s]) k) → ∃ m', zmE (zmD zP (d+1)) zc_297 (28, [some (zr 98), some (zi (s.getD 0 (-1))), some (zi (s.getD 1 (-1))), some (zi (s.getD 2 (-1)))], [], zW L M) = some (none, zW L m') ∧ yFq (fun x j => x = 98 ∧ j = 34 ∨ x = 116 ∨ x = 117) m m' ∧ yRq m' (RS ++ [s]) := fun M f1 f2 => by
    rw [zb_297_28, zgi_98, zbs, f1 98 34 (by decide), h1, w32_of (by omega) (by omega), zpi_98, zbs, zcv_98]
    have kx : ∀ x, x ≠ 98 → zup M 98 34 ((RS.length : Int) + 1) x = M x := fun x hx => funext fun j => zup_ne hx
    obtain ⟨M1, r1, r2, r3⟩ := zk_298 (L := L) (m := zup M 98 34 ((RS.length : Int) + 1)) d 0 (by decide) _ b0
    obtain ⟨M2, s1, s2, s3⟩ := zk_298 (L := L) (m := M1) d 1 (by decide) _ b1
    obtain ⟨M3, t1, t2, t3⟩ := zk_298 (L := L) (m := M2) d 2 (by decide) _ b2
    have r1' : zmD zP (d + 1) 298 [zr 98, zi 0, zi (s.getD 0 (-1))] _ = _ := r1
    have s1' : zmD zP (d + 1) 298 [zr 98, zi 1, zi (s.getD 1 (-1))] _ = _ := s1
    have t1' : zmD zP (d + 1) 298 [zr 98, zi 2, zi (s.getD 2 (-1))] _ = _ := t1
    rw [r1', zbs, zmG_n, zb_297_44, zcv_98, s1', zbs, zmG_n, zb_297_50, zcv_98, t1', zbs, zmG_n, zb_297_56]
    have F3 : yFq (fun x _ => x = 117) (zup M 98 34 ((RS.length : Int) + 1)) M3 := yFq_tr (yFq_tr r2 s2) t2
    refine ⟨M3, rfl, fun x j hx => ?_, ?_, fun k hk => ?_, fun k hk v v1 v2 => ?_⟩
    · rw [F3 x j (fun q => hx (.inr (.inr q)))]
      by_cases g : x = 98
      · subst g
        rw [zup_ne2 (fun q => hx (.inl ⟨rfl, q⟩))]
        exact f1 98 j (by omega)
      · rw [kx x g]
        exact f1 x j (fun q => hx (.inr (.inl q)))
    · rw [F3 98 34 (by decide), zup_self, List.length_append, List.length_singleton, Int.natCast_succ]
    · rw [F3 116 k (by omega), kx 116 (by decide)]
      exact f2 k hk
    · have hM : M 117 (4096 * k + v) = yT (yMks 0 RS k v) := by rw [f1 117 _ (by omega)]; exact h3 k hk v v1 v2
      have q : M3 117 (4096 * k + v) = if v = s.getD k (-1) then 1 else yT (yMks 0 RS k v) := by
        rw [t3 k hk v v1 v2, s3 k hk v v1 v2, r3 k hk v v1 v2, kx 117 (by decide), hM]
        have : k = 0 ∨ k = 1 ∨ k = 2 := by omega
        rcases this with rfl | rfl | rfl
        · rw [if_neg (by omega), if_neg (by omega)]
          by_cases g : v = s.getD 0 (-1)
          · rw [if_pos ⟨rfl, g⟩, if_pos g]
          · rw [if_neg (fun q => g q.2), if_neg g]
        · rw [if_neg (by omega)]
          by_cases g : v = s.getD 1 (-1)
          · rw [if_pos ⟨rfl, g⟩, if_pos g]
          · rw [if_neg (fun q => g q.2), if_neg (by omega), if_neg g]
        · by_cases g : v = s.getD 2 (-1)
          · rw [if_pos ⟨rfl, g⟩, if_pos g]
          · rw [if_neg (fun q => g q.2), if_neg (by omega), if_neg (by omega), if_neg g]
      rw [q]
      by_cases g : v = s.getD k (-1)
      · rw [if_pos g, yT_pos ((yMks_one v1).mpr (.inr g))]
      · rw [if_neg g]
        exact yT_c ⟨fun q => (yMks_one v1).mpr (.inl q), fun q => ((yMks_one v1).mp q).resolve_right g⟩
  cases RS with
  | nil =>
    rw [if_pos (by rfl), zgr_98_35, zbs, zsi_116 (by decide) (by decide), zbs, zgr_98_35, zbs, zsi_116 (by decide) (by decide), zbs, zgr_98_35, zbs, zsi_116 (by decide) (by decide), zbs]
    refine rest _ (yFq_up (yFq_up (yFq_up yFq_rfl rfl) rfl) rfl) fun k hk => ?_
    have : k = 0 ∨ k = 1 ∨ k = 2 := by omega
    rcases this with rfl | rfl | rfl
    · show zup (zup (zup m 116 0 _) 116 1 _) 116 2 _ 116 0 = s.getD 0 (-1)
      rw [zup_ne2 (by decide), zup_ne2 (by decide), zup_self]
    · show zup (zup (zup m 116 0 _) 116 1 _) 116 2 _ 116 1 = s.getD 1 (-1)
      rw [zup_ne2 (by decide), zup_self]
    · show zup (zup (zup m 116 0 _) 116 1 _) 116 2 _ 116 2 = s.getD 2 (-1)
      rw [zup_self]
  | cons t RS =>
    rw [if_neg (by rw [List.length_cons]; omega)]
    exact rest m yFq_rfl fun k hk => h2 k hk
/-- the moves that fit a part, listed on its level -/
theorem zk_295 {l : Nat} (hl : l < 3) {w : List Int} {b : Int → Int} {c : Int} (h : yRl m l b c) (hx : yCx m w) (hp : l < (yGa w).length) (h37 : m 98 37 = 0) : ∃ m', zmD zP (d + 7) 295 [zr 98, zi l, zi l] (zW L m) = some (none, zW L m') ∧ yFq (fun x j => x = 107 ∧ 512 * (l : Int) ≤ j ∧ j < 512 * l + 512 ∨ x = 108 ∧ j = l ∨ x = 98 ∧ (13 ≤ j ∧ j ≤ 17 ∨ j = 37)) m m' ∧ yRl m' l b c ∧ yRm m' l (yFl b c ((yGa w).getD l [])) ∧ m' 98 37 = (if 40 < (yFl b c ((yGa w).getD l [])).length then 1 else 0) := by
  obtain ⟨hw, h27, hkk⟩ := hx
  obtain ⟨hps, hst⟩ := hkk (by omega)
  have h12 := yGa_le (w := w)
  have hrun := yGa_run (w := w) l hp
  obtain ⟨M1, r1, r2, r3, r4⟩ := yr_232l (L := L) d (l := (l : Int)) (by omega) h
  obtain ⟨M2, s1, s2, s3⟩ := zk_289 (L := L) (m := M1) (d + 1) (yRt_fr hw r2 fun j => by unfold yPm; omega) (i := l) (by rw [← hps]; exact hp) (by rw [← hps]; exact h12) (fun j hj => by rw [r2 114 j (by unfold yPm; omega)]; exact hst j hj) (by rw [← hps]; exact hrun)
  rw [← hps] at s1 s3
  have on2 := yRl_fr r3 s2 (fun j _ _ q => by unfold yS5 at q; omega) (fun q => by unfold yS5 at q; omega)
  have rm2 := yRm_fq r4 s2 (fun j _ _ q => by unfold yS5 at q; omega) (fun q => by unfold yS5 at q; omega)
  have g37 : M2 98 37 = 0 := by rw [s2 98 37 (by unfold yS5; omega), r2 98 37 (by unfold yPm; omega)]; exact h37
  have F2 : yFq (fun x j => x = 107 ∧ 512 * (l : Int) ≤ j ∧ j < 512 * l + 512 ∨ x = 108 ∧ j = l ∨ x = 98 ∧ (13 ≤ j ∧ j ≤ 17 ∨ j = 37)) m M2 := yFq_tr (yFq_wd r2 fun x j q => by unfold yPm at q; omega) (yFq_wd s2 fun x j q => by unfold yS5 at q; omega)
  obtain ⟨hpu, hb2, hc2⟩ := on2
  have hok : yOkv b (yMv b c) := yPu_ok hpu
  have hle := rm2.2.1
  unfold yFl
  generalize (yGa w).getD l [] = p at *
  -- a move fits, as the reference sees it
  have hfit : ∀ (M : Nat → Int → Int), (∀ j, 13 ≤ j → j ≤ 17 → M 98 j = M2 98 j) → yAg (zbd M l) b → ∀ x ∈ yMv b c, yT (yFit9 M (zbd M l) x) = yT (yFits p (b (x / 64) % 8 - 1) x) := fun M q1 q2 x hx => by
    obtain ⟨x1, x2, x3⟩ := hok x hx
    refine yT_c ?_
    unfold yFit9
    rw [q2 (x / 64) (by omega) (by omega), q1 13 (by decide) (by decide), q1 14 (by decide) (by decide), q1 15 (by decide) (by decide), q1 16 (by decide) (by decide), q1 17 (by decide) (by decide)]
    exact s3 _ _ ⟨by omega, by omega⟩ x1
  rw [zen_295, zb_295_0, zcv_98, r1, zbs, zmG_n, zb_295_5, zcv_98, s1, zbs, zmG_v, zb_295_10]
  suffices go : ∀ (k i : Nat) (M : Nat → Int → Int), i + k = (yMv b c).length → yFq (fun x j => x = 107 ∧ 512 * (l : Int) ≤ j ∧ j < 512 * l + 512) M2 M → (∀ a : Nat, i ≤ a → a < (yMv b c).length → M 107 (512 * l + a) = (yMv b c).getD a 0) → (∀ a : Nat, a < (((yMv b c).take i).filter (yMean b p)).length → M 107 (512 * l + a) = (((yMv b c).take i).filter (yMean b p)).getD a 0) → ∃ m', zmE (zmD zP (d+6)) zc_295 (16, [some (zr 98), some (zi l), some (zi l), some (zi ((((yMv b c).take i).filter (yMean b p)).length)), some (zi i)], [], zW L M) = some (none, zW L m') ∧ yFq (fun x j => x = 107 ∧ 512 * (l : Int) ≤ j ∧ j < 512 * l + 512 ∨ x = 108 ∧ j = l ∨ x = 98 ∧ (13 ≤ j ∧ j ≤ 17 ∨ j = 37)) m m' ∧ yRl m' l b c ∧ yRm m' l ((yMv b c).filter (yMean b p)) ∧ m' 98 37 = (if 40 < ((yMv b c).filter (yMean b p)).length then 1 else 0) from go (yMv b c).length 0 M2 (by omega) yFq_rfl (fun a _ ha => yRm_i rm2 ha) fun a ha => absurd ha (Nat.not_lt_zero a)
  intro k
  induction k with
  | zero =>
    intro i M hi f1 f2 f3
    have hfl := List.length_filter_le (yMean b p) (yMv b c)
    rw [show i = (yMv b c).length by omega] at f3 ⊢
    rw [List.take_length] at f3 ⊢
    rw [zb_295_16, zgr_98_12, zbs, zai_108 (by omega) (by omega), zbs, f1 108 l (by omega), rm2.1, if_neg (by omega), zbs, zsi_108 (by omega) (by omega), zbs, zgi_98, zbs, zup_ne (by decide), f1 98 37 (by omega), g37, if_pos rfl]
    have kx : ∀ x, x ≠ 108 → zup M 108 l (((yMv b c).filter (yMean b p)).length : Int) x = M x := fun x hx => funext fun j => zup_ne hx
    have fin : ∀ z : Int, z = (if 40 < ((yMv b c).filter (yMean b p)).length then 1 else 0) → ∃ m', zmE (zmD zP (d+6)) zc_295 (108, [some (zr 98), some (zi l), some (zi l), some (zi (((yMv b c).filter (yMean b p)).length)), some (zi ((yMv b c).length))], [zi z, zr 98], zW L (zup M 108 l (((yMv b c).filter (yMean b p)).length : Int))) = some (none, zW L m') ∧ yFq (fun x j => x = 107 ∧ 512 * (l : Int) ≤ j ∧ j < 512 * l + 512 ∨ x = 108 ∧ j = l ∨ x = 98 ∧ (13 ≤ j ∧ j ≤ 17 ∨ j = 37)) m m' ∧ yRl m' l b c ∧ yRm m' l ((yMv b c).filter (yMean b p)) ∧ m' 98 37 = (if 40 < ((yMv b c).filter (yMean b p)).length then 1 else 0) := fun z hz => by
      have hz01 : z = 0 ∨ z = 1 := by rw [hz]; split <;> omega
      rw [zb_295_108, zpz_98 hz01, zbs]
      have F3 : yFq (fun x j => x = 107 ∧ 512 * (l : Int) ≤ j ∧ j < 512 * l + 512 ∨ x = 108 ∧ j = l ∨ x = 98 ∧ j = 37) M2 (zup (zup M 108 l (((yMv b c).filter (yMean b p)).length : Int)) 98 37 z) := yFq_up (yFq_up (yFq_wd f1 fun x j q => .inl q) (.inr (.inl ⟨rfl, rfl⟩))) (.inr (.inr ⟨rfl, rfl⟩))
      refine ⟨_, rfl, yFq_tr F2 (yFq_wd F3 fun x j q => by omega), yRl_fr ⟨hpu, hb2, hc2⟩ F3 (fun j _ _ q => by omega) (fun q => by omega), ⟨?_, by omega, fun a ha => ?_⟩, ?_⟩
      · rw [zup_ne (by decide), zup_self]
      · rw [zup_ne (by decide), kx 107 (by decide)]
        exact f3 a ha
      · rw [zup_self, hz]
    by_cases g : 40 < ((yMv b c).filter (yMean b p)).length
    · rw [if_pos (by omega), zb_295_103]
      exact fin 1 (if_pos g).symm
    · rw [if_neg (by omega)]
      exact fin 0 (if_neg g).symm
  | succ k ih =>
    intro i M hi f1 f2 f3
    obtain ⟨o1, o2, o3⟩ := yOkv_get hok (i := i) (by omega)
    have hv : (yMv b c).getD i 0 ∈ yMv b c := yMem_get.mpr ⟨i, by omega, rfl⟩
    have hbM : yAg (zbd M l) b := fun s s1 s2 => by
      rw [← hb2 s s1 s2]
      exact f1 105 _ (by omega)
    have hfi := hfit M (fun j j1 j2 => f1 98 j (by omega)) hbM _ hv
    have hlt : (((yMv b c).take i).filter (yMean b p)).length ≤ i := by
      have := List.length_filter_le (yMean b p) ((yMv b c).take i)
      rw [List.length_take] at this
      omega
    have es := yfilt_take (p := yMean b p) (show i < (yMv b c).length by omega)
    have eread := f2 i (Nat.le_refl i) (by omega)
    rw [zb_295_16, zgr_98_12, zbs, zai_108 (by omega) (by omega), zbs, f1 108 l (by omega), rm2.1, if_pos (by omega), zgr_98_11, zbs, w32_of (z := 512 * (l : Int)) (by omega) (by omega), w32_of (z := 512 * (l : Int) + i) (by omega) (by omega), zai_107 (by omega) (by omega), zbs, eread, zcv_98, zk_258 (d + 5) l _ (by omega) o1 (by rw [hbM _ (by omega) (by omega)]; exact hpu.1 _ (by omega) (by omega)), zbs, zmG_v, zb_295_45, hfi]
    by_cases g : yFits p (b ((yMv b c).getD i 0 / 64) % 8 - 1) ((yMv b c).getD i 0)
    · have hm : yMean b p ((yMv b c).getD i 0) = true := decide_eq_true (yT_pos g)
      rw [if_pos hm] at es
      rw [yT_pos g, if_neg (c := (1 : Int) = 0) (by decide), zgr_98_11, zbs, zbs, w32_of (z := 512 * (l : Int)) (by omega) (by omega), w32_of (z := 512 * (l : Int) + i) (by omega) (by omega), zai_107 (by omega) (by omega), zbs, eread, w32_of (z := 512 * (l : Int) + ((((yMv b c).take i).filter (yMean b p)).length : Nat)) (by omega) (by omega), zsi_107 (by omega) (by omega), zbs, w32_of (by omega) (by omega), zb_295_76, w32_of (by omega) (by omega)]
      have := ih (i + 1) (zup M 107 (512 * (l : Int) + ((((yMv b c).take i).filter (yMean b p)).length : Nat)) ((yMv b c).getD i 0)) (by omega) (yFq_up f1 ⟨rfl, by omega, by omega⟩) (fun a a1 a2 => by rw [zup_ne2 (by omega)]; exact f2 a (by omega) a2) fun a ha => by
        rw [es, List.length_append, List.length_singleton] at ha
        rw [es]
        by_cases g2 : a = (((yMv b c).take i).filter (yMean b p)).length
        · rw [g2, zup_self, yget_e rfl]
        · rw [zup_ne2 (by omega), f3 a (by omega), yget_l (by omega)]
      rw [es, List.length_append, List.length_singleton, Int.natCast_succ, Int.natCast_succ] at this
      exact this
    · have hm : ¬ yMean b p ((yMv b c).getD i 0) = true := fun q => by
        have := of_decide_eq_true q
        rw [yT_neg g] at this
        omega
      rw [if_neg hm, List.append_nil] at es
      rw [yT_neg g, if_pos rfl, zb_295_76, w32_of (by omega) (by omega), ← es]
      exact ih (i + 1) M (by omega) f1 (fun a a1 a2 => f2 a (by omega) a2) fun a ha => by
        rw [es] at ha ⊢
        exact f3 a ha
end ZR
