/-! says whole, fits, fitting of the reference -/
section ZR
variable {L : Nat} {m : Nat → Int → Int} (d : Nat) {t : Int} {w : List Int}
theorem zk_219f (h : yRt m t w) (st en i0 : Nat) (mb : Int) (hen : en ≤ w.length) (hi0 : i0 ≤ en) {M : Nat → Int → Int} (hM : yFq yS5 m M) {p0 k0 : Int} (hp : p0 = 0 ∧ k0 = 0 ∨ p0 = 16 ∧ 0 ≤ k0 ∧ k0 ≤ 5) (hman : M 98 13 = if p0 = 0 then -1 else k0 + 1) (o6 o7 o8 o9 o10 : Option zmV) : ∃ m', zmE (zmD zP (d+3)) zc_219 (52, [some (zr 98), some (zi t), some (zi st), some (zi en), some (zi i0), some (zi mb), o6, o7, o8, o9, o10], [], zW L M) = some (some (zi (yRun 1 ((w.drop i0).take (en - i0)) i0)), zW L m') ∧ yFq yS5 m m' ∧ (yRun 1 ((w.drop i0).take (en - i0)) i0 = -1 → ∀ kind v, 0 ≤ kind ∧ kind ≤ 5 → 0 ≤ v ∧ v < 4096 → (yFitR (m' 98 13) (m' 98 14) (m' 98 15) (m' 98 16) (m' 98 17) kind v ↔ yKey (yPar ((w.drop i0).take (en - i0)) 1 p0 k0).2.1 kind v = (yPar ((w.drop i0).take (en - i0)) 1 p0 k0).2.2)) := by
  have hcap : w.length ≤ 80 := by
    have := h.2.2.1
    unfold yCap at this
    split at this
    · exact this
    · split at this <;> omega
  have hRM := yRt_fr h hM yS5_text
  obtain ⟨s1, s2⟩ := zk_219s (L := L) (m := M) d hRM st en i0 mb hen (en - i0) i0 (by omega) 0 (by decide) o8 o9 o10
  rw [zb_219_52]
  have e1 : yPhi 0 = 1 := rfl
  rw [e1] at s1 s2
  generalize hu : (w.drop i0).take (en - i0) = u at *
  have hul : u.length = en - i0 := by
    rw [← hu, List.length_take, List.length_drop]
    omega
  by_cases g : yRun 1 u i0 = -1
  · obtain ⟨o4, o7', o8', o9', o10', e2⟩ := s2 g
    have hlen := yRun_len (by omega) g
    obtain ⟨m', t1, t2, t3, t4⟩ := zk_222 d hRM i0 u (by rw [hul, hu]) (by omega) hlen
    have e3 : (u.length : Int) = (en : Int) - i0 := by omega
    rw [e2, w32_of (by omega) (by omega), zcv_98, ← e3, t1, zbs, zmG_n, zb_219_253, g]
    refine ⟨m', rfl, yFq_tr hM t2, fun _ kind v hk hv => ?_⟩
    obtain ⟨f1, f2, f3, f4⟩ := t3
    rw [yRead_same hp hk hv ((yRun_shift u i0 0 (by omega) (by decide)).mp g), t4, hman, f1, f2, f3, f4]
  · rw [s1 g]
    exact ⟨M, rfl, hM, fun q => absurd q g⟩
theorem zk_219 (h : yRt m t w) (st en : Nat) (h1 : st ≤ en) (hen : en ≤ w.length) : ∃ m', zmD zP (d + 4) 219 [zr 98, zi t, zi st, zi en] (zW L m) = some (some (zi (yRun 0 ((w.drop st).take (en - st)) st)), zW L m') ∧ yFq yS5 m m' ∧ (yRun 0 ((w.drop st).take (en - st)) st = -1 → ∀ kind v, 0 ≤ kind ∧ kind ≤ 5 → 0 ≤ v ∧ v < 4096 → (yFitR (m' 98 13) (m' 98 14) (m' 98 15) (m' 98 16) (m' 98 17) kind v ↔ yFits ((w.drop st).take (en - st)) kind v)) := by
  have hcap : w.length ≤ 80 := by
    have := h.2.2.1
    unfold yCap at this
    split at this
    · exact this
    · split at this <;> omega
  have F1 : yFq yS5 m (zup m 98 13 (-1)) := yFq_up yFq_rfl ⟨rfl, by decide, by decide⟩
  have fits : ∀ {u : List Int} {p k : Int} {u' : List Int}, yPar u 0 0 0 = yPar u' 1 p k → yRun 1 u' 0 = -1 → ∀ kind v, (yFits u kind v ↔ yKey (yPar u' 1 p k).2.1 kind v = (yPar u' 1 p k).2.2) := fun q1 q2 kind v => by
    unfold yFits
    rw [q1]
    exact ⟨fun q => q.2, fun q => ⟨(yPar_run _ 1 _ _ 0 (by decide)).mp q2, q⟩⟩
  -- no man
  have no : (∀ b w', (w.drop st).take (en - st) = b :: w' → ¬ 0 < yMan b) → ∀ mb : Int, ∃ m', zmE (zmD zP (d+3)) zc_219 (52, [some (zr 98), some (zi t), some (zi st), some (zi en), some (zi st), some (zi mb), none, none, none, none, none], [], zW L (zup m 98 13 (-1))) = some (some (zi (yRun 0 ((w.drop st).take (en - st)) st)), zW L m') ∧ yFq yS5 m m' ∧ (yRun 0 ((w.drop st).take (en - st)) st = -1 → ∀ kind v, 0 ≤ kind ∧ kind ≤ 5 → 0 ≤ v ∧ v < 4096 → (yFitR (m' 98 13) (m' 98 14) (m' 98 15) (m' 98 16) (m' 98 17) kind v ↔ yFits ((w.drop st).take (en - st)) kind v)) := fun hn mb => by
    obtain ⟨m', f1, f2, f3⟩ := zk_219f (L := L) d h st en st mb hen h1 F1 (p0 := 0) (k0 := 0) (.inl ⟨rfl, rfl⟩) zup_self none none none none none
    rw [yRun_01 hn]
    refine ⟨m', f1, f2, fun q kind v hk hv => ?_⟩
    have q0 := (yRun_shift _ st 0 (by omega) (by decide)).mp q
    rw [f3 q kind v hk hv, fits (yPar_01 hn (fun e => by rw [e, yRun_nil, yEnds_no (by omega), if_pos rfl] at q0; omega)) q0]
  rw [zen_219, zb_219_0]
  by_cases g : st < en
  · have hb := (h.2.2.2 st (by omega)).2
    have hdr : (w.drop st).take (en - st) = w.getD st 0 :: (w.drop (st + 1)).take (en - (st + 1)) := by
      rw [ydrop (by omega), show en - st = (en - (st + 1)) + 1 by omega, List.take_succ_cons]
    obtain ⟨z1, z2⟩ := zman_man (w.getD st 0)
    rw [if_pos (by omega), zcv_98, zk_197t (d + 1) h _ (by omega), zbs, zmG_v, zb_219_16, zk_199, zbs, zmG_v, zb_219_19, zb_219_23, zpi_98, zbs, zk_201, zbs, zmG_v, zb_219_40, yGet_at (by omega)]
    by_cases g2 : 1 ≤ zman (w.getD st 0) ∧ zman (w.getD st 0) ≤ 6
    · have g3 := z1.mp g2
      rw [if_neg (fun q => zB_z.mp q g2), zpi_98, zbs, w32_of (by omega) (by omega), z2 g3]
      have e : ((st : Int) + 1) = ((st + 1 : Nat) : Int) := by omega
      rw [e]
      obtain ⟨m', f1, f2, f3⟩ := zk_219f (L := L) d h st en (st + 1) (yMan (w.getD st 0)) hen (by omega) (yFq_up (k := 13) (z := yMan (w.getD st 0)) F1 ⟨rfl, by decide, by decide⟩) (p0 := 16) (k0 := yMan (w.getD st 0) - 1) (.inr ⟨rfl, by omega, by have := (yMan_enc (w.getD st 0)).2; omega⟩) (by rw [zup_self, if_neg (by decide)]; omega) none none none none none
      rw [hdr, yRun_cons, yNext_0m g3, if_neg (by decide), e]
      refine ⟨m', f1, f2, fun q kind v hk hv => ?_⟩
      have q0 := (yRun_shift _ _ 0 (by omega) (by decide)).mp q
      rw [f3 q kind v hk hv, fits (by rw [yPar_cons, yNext_0m g3, if_pos rfl]) q0]
    · rw [if_pos (zB_z.mpr g2)]
      exact no (fun b w' q => by
        rw [hdr] at q
        cases q
        exact fun q => g2 (z1.mpr q)) _
  · rw [if_neg (by omega), zb_219_23, zpi_98, zbs, zk_201, zbs, zmG_v, zb_219_40, if_pos (zB_z.mpr (by decide))]
    exact no (fun b w' q => by
      rw [show en - st = 0 by omega, List.take_zero] at q
      cases q) _
theorem zk_218 {w : List Int} (h : yRt m 1 w) : ∃ m', zmD zP (d + 5) 218 [zr 98] (zW L m) = some (some (zi (yRun 0 w 0)), zW L m') ∧ yFq yS5 m m' ∧ (yRun 0 w 0 = -1 → ∀ kind v, 0 ≤ kind ∧ kind ≤ 5 → 0 ≤ v ∧ v < 4096 → (yFitR (m' 98 13) (m' 98 14) (m' 98 15) (m' 98 16) (m' 98 17) kind v ↔ yFits w kind v)) := by
  obtain ⟨m', e1, e2, e3⟩ := zk_219 (L := L) d h 0 w.length (Nat.zero_le _) (Nat.le_refl _)
  rw [List.drop_zero, Nat.sub_zero, List.take_length] at e1 e3
  rw [zen_218, zb_218_0, zgr_98_6, zbs, zai_104 (by decide) (by decide), zbs, h.2.1, zcv_98]
  have e1' : zmD zP (d + 4) 219 [zr 98, zi 1, zi 0, zi w.length] (zW L m) = some (some (zi (yRun 0 w 0)), zW L m') := e1
  rw [e1', zbs, zmG_v, zb_218_12]
  exact ⟨m', rfl, e2, e3⟩
/-- whether the saying that the reference holds fits a move -/
def yFit9 (m : Nat → Int → Int) (b : Int → Int) (v : Int) : Prop := yFitR (m 98 13) (m 98 14) (m 98 15) (m 98 16) (m 98 17) (b (v / 64) % 8 - 1) v
theorem zk_258 (l v : Int) (hl : 0 ≤ l ∧ l < 4) (hv : 0 ≤ v ∧ v < 4096) (hb : 0 ≤ zbd m l (v / 64) ∧ zbd m l (v / 64) ≤ 14) : zmD zP (d + 1) 258 [zr 98, zi l, zi v] (zW L m) = some (some (zi (yT (yFit9 m (zbd m l) v))), zW L m) := by
  have q2 : v / 64 / 8 = v / 512 := by omega
  have q3 : v % 64 % 8 = v % 8 := by omega
  have q4 : v % 64 / 8 = v / 8 % 8 := by omega
  have hbe : m 105 (64 * l + v / 64) = zbd m l (v / 64) := rfl
  unfold yFit9 yFitR yEq
  rw [zen_258, zb_258_0, zgi_98, zbs, z_div_of hv.1 (by omega) (by decide), z_rem_of hv.1 (by omega) (by decide) (by decide), zgr_98_8, zbs, w32_of (z := 64 * l) (by omega) (by omega), w32_of (z := 64 * l + v / 64) (by omega) (by omega), zai_105 (by omega) (by omega), zbs, hbe, z_rem_of hb.1 (by omega) (by decide) (by decide)]
  have e1 : zbd m l (v / 64) % 8 - 1 + 1 = zbd m l (v / 64) % 8 := by omega
  rw [e1]
  have last : ∀ x y : Int, (x = 0 ∨ x = 1) → (y = 0 ∨ y = 1) → zmE (zmD zP d) zc_258 (90, [some (zr 98), some (zi l), some (zi v), some (zi (v / 64)), some (zi (v % 64)), some (zi x), none], [zi y], zW L m) = some (some (zi (yT (x = 1 ∧ y = 1 ∧ (m 98 16 = -1 ∨ v % 8 = m 98 16) ∧ (m 98 17 = -1 ∨ v / 8 % 8 = m 98 17)))), zW L m) := fun x y hx hy => by
    rw [zb_258_90]
    by_cases g1 : x = 0
    · rw [if_pos g1, yT_neg (by omega)]
    · rw [if_neg g1]
      by_cases g2 : y = 0
      · rw [if_pos g2, yT_neg (by omega)]
      · have e122 : ∀ o6, (m 98 16 = -1 ∨ v % 8 = m 98 16) → zmE (zmD zP d) zc_258 (122, [some (zr 98), some (zi l), some (zi v), some (zi (v / 64)), some (zi (v % 64)), some (zi x), some (zi o6)], [], zW L m) = some (some (zi (yT (x = 1 ∧ y = 1 ∧ (m 98 16 = -1 ∨ v % 8 = m 98 16) ∧ (m 98 17 = -1 ∨ v / 8 % 8 = m 98 17)))), zW L m) := fun o6 g => by
          rw [zb_258_122, zgi_98, zbs]
          by_cases k1 : m 98 17 = -1
          · rw [if_pos k1, zb_258_142, yT_pos ⟨by omega, by omega, g, .inl k1⟩]
          · rw [if_neg k1, zbs, z_div_of (by omega) (by omega) (by decide), q4]
            by_cases k2 : v / 8 % 8 = m 98 17
            · rw [if_pos k2, zb_258_142, yT_pos ⟨by omega, by omega, g, .inr k2⟩]
            · rw [if_neg k2, yT_neg (fun q => q.2.2.2.elim k1 k2)]
        rw [if_neg g2, zgi_98, zbs]
        by_cases k1 : m 98 16 = -1
        · rw [if_pos k1, e122 _ (.inl k1)]
        · rw [if_neg k1, zbs, z_rem_of (by omega) (by omega) (by decide) (by decide), q3]
          by_cases k2 : v % 8 = m 98 16
          · rw [if_pos k2, e122 _ (.inr k2)]
          · rw [if_neg k2, yT_neg (fun q => q.2.2.1.elim k1 k2)]
  have mid : ∀ x : Int, (x = 0 ∨ x = 1) → zmE (zmD zP d) zc_258 (45, [some (zr 98), some (zi l), some (zi v), some (zi (v / 64)), some (zi (v % 64)), none, none], [zi x], zW L m) = some (some (zi (yT (x = 1 ∧ ((m 98 14 = -1 ∨ v / 64 % 8 = m 98 14) ∧ (m 98 15 = -1 ∨ v / 512 = m 98 15)) ∧ (m 98 16 = -1 ∨ v % 8 = m 98 16) ∧ (m 98 17 = -1 ∨ v / 8 % 8 = m 98 17)))), zW L m) := fun x hx => by
    rw [zb_258_45, zgi_98, zbs]
    have e66 : (m 98 14 = -1 ∨ v / 64 % 8 = m 98 14) → zmE (zmD zP d) zc_258 (66, [some (zr 98), some (zi l), some (zi v), some (zi (v / 64)), some (zi (v % 64)), some (zi x), none], [], zW L m) = some (some (zi (yT (x = 1 ∧ ((m 98 14 = -1 ∨ v / 64 % 8 = m 98 14) ∧ (m 98 15 = -1 ∨ v / 512 = m 98 15)) ∧ (m 98 16 = -1 ∨ v % 8 = m 98 16) ∧ (m 98 17 = -1 ∨ v / 8 % 8 = m 98 17)))), zW L m) := fun g => by
      rw [zb_258_66, zgi_98, zbs]
      by_cases k1 : m 98 15 = -1
      · rw [if_pos k1, zb_258_85, last x 1 hx (.inr rfl)]
        exact congrArg (fun z => some (some (zi z), zW L m)) (yT_c ⟨fun q => ⟨q.1, ⟨g, .inl k1⟩, q.2.2⟩, fun q => ⟨q.1, rfl, q.2.2⟩⟩)
      · rw [if_neg k1, zbs, z_div_of (by omega) (by omega) (by decide), q2]
        by_cases k2 : v / 512 = m 98 15
        · rw [if_pos k2, zb_258_85, last x 1 hx (.inr rfl)]
          exact congrArg (fun z => some (some (zi z), zW L m)) (yT_c ⟨fun q => ⟨q.1, ⟨g, .inr k2⟩, q.2.2⟩, fun q => ⟨q.1, rfl, q.2.2⟩⟩)
        · rw [if_neg k2, zb_258_89, last x 0 hx (.inl rfl), yT_neg (fun q => absurd q.2.1 (by decide)), yT_neg (fun q => q.2.1.2.elim k1 k2)]
    by_cases k1 : m 98 14 = -1
    · rw [if_pos k1, e66 (.inl k1)]
    · rw [if_neg k1, zbs, z_rem_of (by omega) (by omega) (by decide) (by decide)]
      by_cases k2 : v / 64 % 8 = m 98 14
      · rw [if_pos k2, e66 (.inr k2)]
      · rw [if_neg k2, zb_258_89, last x 0 hx (.inl rfl), yT_neg (fun q => absurd q.2.1 (by decide)), yT_neg (fun q => q.2.1.1.elim k1 k2)]
  by_cases g : m 98 13 = -1
  · rw [if_pos g, zb_258_40, mid 1 (.inr rfl)]
    exact congrArg (fun z => some (some (zi z), zW L m)) (yT_c ⟨fun q => ⟨.inl g, q.2⟩, fun q => ⟨rfl, q.2⟩⟩)
  · rw [if_neg g, zbs]
    by_cases g2 : zbd m l (v / 64) % 8 = m 98 13
    · rw [if_pos g2, zb_258_40, mid 1 (.inr rfl)]
      exact congrArg (fun z => some (some (zi z), zW L m)) (yT_c ⟨fun q => ⟨.inr g2, q.2⟩, fun q => ⟨rfl, q.2⟩⟩)
    · rw [if_neg g2, mid 0 (.inl rfl), yT_neg (fun q => absurd q.1 (by decide)), yT_neg (fun q => q.1.elim g g2)]
/-- moves of a level as the reference holds them -/
def yRm (m : Nat → Int → Int) (l : Int) (xs : List Int) : Prop := m 108 l = xs.length ∧ xs.length ≤ 512 ∧ ∀ i : Nat, i < xs.length → m 107 (512 * l + i) = xs.getD i 0
noncomputable def yFw (m : Nat → Int → Int) (b : Int → Int) : Int → Bool := fun v => decide (yT (yFit9 m b v) = 1)
theorem yFw_t {m : Nat → Int → Int} {b : Int → Int} {v : Int} : yFw m b v = true ↔ yFit9 m b v := by
  unfold yFw
  rw [decide_eq_true_iff]
  constructor
  · intro h
    apply Classical.byContradiction
    intro h2
    rw [yT_neg h2] at h
    exact absurd h (by decide)
  · exact yT_pos
theorem zk_257 (l : Int) (hl : 0 ≤ l ∧ l < 3) {xs : List Int} (hm : yRm m l xs) (ho : yOkv (zbd m l) xs) (hB : zOkB (zbd m l)) : zmD zP (d + 2) 257 [zr 98, zi l] (zW L m) = some (some (zi (xs.countP (yFw m (zbd m l)))), zW L m) := by
  obtain ⟨m1, m2, m3⟩ := hm
  suffices go : ∀ k i : Nat, i + k = xs.length → zmE (zmD zP (d+1)) zc_257 (4, [some (zr 98), some (zi l), some (zi ((xs.take i).countP (yFw m (zbd m l)))), some (zi i)], [], zW L m) = some (some (zi (xs.countP (yFw m (zbd m l)))), zW L m) by
    have e := go xs.length 0 (by omega)
    rw [List.take_zero, List.countP_nil] at e
    rw [zen_257, zb_257_0]
    exact e
  intro k
  induction k with
  | zero =>
    intro i hi
    rw [zb_257_4, zgr_98_12, zbs, zai_108 hl.1 (by omega), zbs, m1, if_neg (by omega), show i = xs.length by omega, List.take_length]
  | succ k ih =>
    intro i hi
    obtain ⟨o1, o2, o3⟩ := yOkv_get ho (i := i) (by omega)
    have hc := List.countP_le_length (p := yFw m (zbd m l)) (l := xs.take i)
    rw [List.length_take] at hc
    have e := ih (i + 1) (by omega)
    rw [ycount_take (by omega), Int.natCast_add, Int.natCast_succ] at e
    rw [zb_257_4, zgr_98_12, zbs, zai_108 hl.1 (by omega), zbs, m1, if_pos (by omega), zgr_98_11, zbs, w32_of (z := 512 * l) (by omega) (by omega), w32_of (z := 512 * l + i) (by omega) (by omega), zai_107 (by omega) (by omega), zbs, m3 i (by omega), zcv_98, zk_258 d l _ ⟨hl.1, by omega⟩ o1 (hB _ (by omega) (by omega)), zbs, zmG_v, zb_257_32]
    by_cases g : yFit9 m (zbd m l) (xs.getD i 0)
    · rw [if_pos (yFw_t.mpr g)] at e
      rw [yT_pos g, if_neg (by decide), zb_257_40, w32_of (by omega) (by omega), w32_of (by omega) (by omega)]
      exact e
    · rw [if_neg (fun q => g (yFw_t.mp q))] at e
      rw [yT_neg g, if_pos rfl, zb_257_40, w32_of (by omega) (by omega), w32_of (by omega) (by omega)]
      exact e
end ZR
