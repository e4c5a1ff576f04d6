/-! the digest, of the reference -/
section ZR
variable {L : Nat} {m : Nat → Int → Int} (d : Nat) {w : Int → List Int} {b : Int → Int} {c n e : Int} {W F : Int → Int} {Z : Int → List Int}
def yRz (m : Nat → Int → Int) (w : Int → List Int) (b : Int → Int) (c n e : Int) (W F : Int → Int) (Z : Int → List Int) (M : Nat → Int → Int) : Prop := yFr 98 117 m M ∧ yRs M w b c n e W F Z
theorem yr_216 (h : yRs m w b c n e W F Z) (t : Int) (ht : 0 ≤ t ∧ t ≤ 2) : ∃ m', zmD zP (d + 6) 216 [zr 98, zi t] (zW L m) = some (some (zi (yFault w t)), zW L m') ∧ yFr 98 117 m m' ∧ yRs m' w b c n e W F Z := by
  unfold yFault
  rw [zen_216, zb_216_0]
  by_cases g0 : t = 0
  · obtain ⟨M, r1, r2⟩ := zk_217 (L := L) d h.1.1
    rw [if_pos g0, if_pos g0, zcv_98, r1, zbs, zmG_v, zb_216_8, zb_216_27]
    have F : yFq yPg m M := yFq_wd r2 fun x j q => by unfold yPf at q; unfold yPg; omega
    exact ⟨M, rfl, yPg_fr F, yRs_fr h F yPg_hold⟩
  rw [if_neg g0, if_neg g0]
  by_cases g1 : t = 1
  · obtain ⟨M, r1, r2, -⟩ := zk_218 (L := L) d h.1.2.1
    rw [if_pos g1, if_pos g1, zcv_98, r1, zbs, zmG_v, zb_216_20, zb_216_27]
    have F : yFq yPg m M := yFq_wd r2 fun x j q => .inl ⟨q.1, .inl q.2⟩
    exact ⟨M, rfl, yPg_fr F, yRs_fr h F yPg_hold⟩
  rw [if_neg g1, if_neg g1, if_pos (by omega)]
  obtain ⟨M, r1, r2, -⟩ := zk_223 (L := L) d h.1.2.2
  rw [zcv_98, r1, zbs, zmG_v, zb_216_27]
  exact ⟨M, rfl, yPg_fr r2, yRs_fr h r2 yPg_hold⟩
theorem yr_287 (h : yRs m w b c n e W F Z) (a : Int) (ha : 0 ≤ a ∧ a ≤ 2) : ∃ m', zmD zP (d + 9) 287 [zr 98, zi a] (zW L m) = some (some (zi (yGt (yGa (w 2)) b c a)), zW L m') ∧ yFr 98 117 m m' ∧ yRs m' w b c n e W F Z := by
  obtain ⟨M, r1, r2, r3, r4, r5, r6, r7⟩ := zk_288 (L := L) d h 0
  rw [zen_287, zb_287_0, zcv_98, r1, zbs, zmG_n, zb_287_5]
  refine ⟨M, ?_, yPgm_fr r2, yRs_fr h r2 yPgm_hold⟩
  unfold yGt
  by_cases g1 : a = 0
  · rw [if_pos g1, if_pos g1, zgi_98, zbs, r4]
  rw [if_neg g1, if_neg g1]
  by_cases g2 : a = 1
  · rw [if_pos g2, if_pos g2, zgi_98, zbs, r3]
  · rw [if_neg g2, if_neg g2, zgi_98, zbs, r5]
theorem yr_292 (h : yRs m w b c n e W F Z) (v : Int) : ∃ m', zmD zP (d + 9) 292 [zr 98, zi v] (zW L m) = some (some (zi (yFa (yGa (w 2)) v (yGo (yGa (w 2)) b c).length (yGo (yGa (w 2)) b c).length)), zW L m') ∧ yFr 98 117 m m' ∧ yRs m' w b c n e W F Z := by
  obtain ⟨M, r1, r2, r3, r4, r5, r6, r7⟩ := zk_288 (L := L) d h v
  rw [zen_292, zb_292_0, zcv_98, r1, zbs, zmG_n, zb_292_5, zgi_98, zbs, r6, yFa_b _ (Nat.le_refl _) (by rw [Nat.sub_self]; rfl)]
  exact ⟨M, rfl, yPgm_fr r2, yRs_fr h r2 yPgm_hold⟩
theorem zk_303a (h0 : Int) : ∀ (k i : Nat) (M : Nat → Int → Int), i + k = 8 → yRz m w b c n e W F Z M → ∃ m', zmE (zmD zP (d+20)) zc_303 (6, [some (zr 98), some (zl (yHn (yCoun w b c n e W) i h0)), none, some (zi i), none, none], [], zW L M) = zmE (zmD zP (d+20)) zc_303 (33, [some (zr 98), some (zl (yHn (yCoun w b c n e W) 8 h0)), none, some (zi 0), none, none], [], zW L m') ∧ yRz m w b c n e W F Z m' := fun k => by
  induction k with
  | zero =>
    intro i M hi f
    rw [show i = 8 by omega, zb_303_6, if_neg (by omega)]
    exact ⟨M, rfl, f⟩
  | succ k ih =>
    intro i M hi f
    obtain ⟨M2, r1, r2, r3⟩ := yr_302 (L := L) (m := M) (d + 11) f.2 i
    rw [zb_303_6, if_pos (by omega), zcv_98, r1, zbs, zmG_v, zb_303_22, zb_303_25, w32_of (by omega) (by omega), ← yHn_s]
    exact ih (i + 1) M2 (by omega) ⟨yFr_tr f.1 r2, r3⟩
theorem zk_303b (h0 : Int) : ∀ (k i : Nat) (M : Nat → Int → Int), i + k = 3 → yRz m w b c n e W F Z M → ∃ m', zmE (zmD zP (d+20)) zc_303 (33, [some (zr 98), some (zl (yHn (yFault w) i h0)), none, some (zi i), none, none], [], zW L M) = zmE (zmD zP (d+20)) zc_303 (59, [some (zr 98), some (zl (yHn (yFault w) 3 h0)), none, some (zi 0), none, none], [], zW L m') ∧ yRz m w b c n e W F Z m' := fun k => by
  induction k with
  | zero =>
    intro i M hi f
    rw [show i = 3 by omega, zb_303_33, if_neg (by omega)]
    exact ⟨M, rfl, f⟩
  | succ k ih =>
    intro i M hi f
    obtain ⟨M2, r1, r2, r3⟩ := yr_216 (L := L) (m := M) (d + 14) f.2 i (by omega)
    rw [zb_303_33, if_pos (by omega), zcv_98, r1, zbs, zmG_v, zb_303_48, zb_303_51, w32_of (by omega) (by omega), ← yHn_s]
    exact ih (i + 1) M2 (by omega) ⟨yFr_tr f.1 r2, r3⟩
theorem zk_303c (h0 : Int) (h : yRs m w b c n e W F Z) : ∀ (k i : Nat), i + k = 64 → zmE (zmD zP (d+20)) zc_303 (59, [some (zr 98), some (zl (yHn (fun s => zbyte (b s)) i h0)), none, some (zi i), none, none], [], zW L m) = zmE (zmD zP (d+20)) zc_303 (59, [some (zr 98), some (zl (yHn (fun s => zbyte (b s)) 64 h0)), none, some (zi 64), none, none], [], zW L m) := fun k => by
  induction k with
  | zero =>
    intro i hi
    rw [show i = 64 by omega]
    rfl
  | succ k ih =>
    intro i hi
    have hb := h.2.1.2.1 i (by omega) (by omega)
    have hB := h.2.1.1.1 i (by omega) (by omega)
    have e1 : m 105 i = b i := by
      rw [← hb]
      unfold zbd
      rw [show (64 : Int) * 0 + (i : Int) = i by omega]
    have es : yHn (fun s => zbyte (b s)) (i + 1) h0 = w64 (w64 (31 * yHn (fun s => zbyte (b s)) i h0) + zbyte (b i)) := rfl
    rw [zb_303_59, if_pos (by omega), zgr_98_8, zbs, zai_105 (by omega) (by omega), zbs, e1, zk_227 (d + 18) _ hB.1 hB.2, zbs, zmG_v, zb_303_79, zb_303_82, w32_of (by omega) (by omega), ← es]
    exact ih (i + 1) (by omega)
theorem zk_303d {f : Int} (hB : yBs m (yShS b (yMv b c) f)) (h0 : Int) : ∀ (k i : Nat), i + k = (yNs b (yMv b c) f).toNat → zmE (zmD zP (d+20)) zc_303 (235, [some (zr 98), some (zl (yHn (yGet (yShS b (yMv b c) f)) i h0)), none, some (zi f), some (zi (yNs b (yMv b c) f)), some (zi i)], [], zW L m) = zmE (zmD zP (d+20)) zc_303 (235, [some (zr 98), some (zl (yHn (yGet (yShS b (yMv b c) f)) (yNs b (yMv b c) f).toNat h0)), none, some (zi f), some (zi (yNs b (yMv b c) f)), some (zi (yNs b (yMv b c) f))], [], zW L m) := fun k => by
  have hn := yNs_in (b := b) (xs := yMv b c) (v := f)
  have hl := yShS_len (b := b) (xs := yMv b c) (v := f)
  induction k with
  | zero =>
    intro i hi
    rw [show i = (yNs b (yMv b c) f).toNat by omega]
    rw [show (((yNs b (yMv b c) f).toNat : Nat) : Int) = yNs b (yMv b c) f by omega]
  | succ k ih =>
    intro i hi
    have e1 := hB.2 i (by omega)
    have e2 : yGet (yShS b (yMv b c) f) i = (yShS b (yMv b c) f).getD i 0 := by
      unfold yGet
      rw [if_pos (by omega), Int.toNat_natCast]
    rw [zb_303_235, if_pos (by omega), zgr_98_18, zbs, zai_109 (by omega) (by omega), zbs, e1, ← e2, zb_303_257, w32_of (by omega) (by omega), ← yHn_s]
    exact ih (i + 1) (by omega)
theorem zk_303e (h0 l3 : Int) (o5 : Option zmV) : ∀ (k i : Nat) (M : Nat → Int → Int), i + k = 3 → yRz m w b c n e W F Z M → ∃ m', zmE (zmD zP (d+20)) zc_303 (284, [some (zr 98), some (zl (yHn (yGt (yGa (w 2)) b c) i h0)), none, some (zi l3), some (zi i), o5], [], zW L M) = zmE (zmD zP (d+20)) zc_303 (284, [some (zr 98), some (zl (yHn (yGt (yGa (w 2)) b c) 3 h0)), none, some (zi l3), some (zi 3), o5], [], zW L m') ∧ yRz m w b c n e W F Z m' := fun k => by
  induction k with
  | zero =>
    intro i M hi f
    rw [show i = 3 by omega]
    exact ⟨M, rfl, f⟩
  | succ k ih =>
    intro i M hi f
    obtain ⟨M2, r1, r2, r3⟩ := yr_287 (L := L) (m := M) (d + 11) f.2 i (by omega)
    rw [zb_303_284, if_pos (by omega), zcv_98, r1, zbs, zmG_v, zb_303_301, zb_303_304, w32_of (by omega) (by omega), ← yHn_s]
    exact ih (i + 1) M2 (by omega) ⟨yFr_tr f.1 r2, r3⟩
theorem yr_303 (h : yRs m w b c n e W F Z) : ∃ m', zmD zP (d + 21) 303 [zr 98] (zW L m) = some (some (zl (yDig9 w b c n e W)), zW L m') ∧ yFr 98 117 m m' ∧ yRs m' w b c n e W F Z := by
  have hnn : ∀ v ∈ yMv b c, 0 ≤ v := fun v hv => (yMv_go hv).1.1
  obtain ⟨M1, r1, c1⟩ := zk_303a (L := L) (m := m) d 17 8 0 m (by omega) ⟨yFr_rfl, h⟩
  obtain ⟨M2, r2, c2⟩ := zk_303b (L := L) (m := m) d (yHn (yCoun w b c n e W) 8 17) 3 0 M1 (by omega) c1
  have r3 := zk_303c (L := L) (m := M2) d (yHn (yFault w) 3 (yHn (yCoun w b c n e W) 8 17)) c2.2 64 0 (by omega)
  have r1' : zmE (zmD zP (d+20)) zc_303 (6, [some (zr 98), some (zl 17), none, some (zi 0), none, none], [], zW L m) = _ := r1
  have r2' : zmE (zmD zP (d+20)) zc_303 (33, [some (zr 98), some (zl (yHn (yCoun w b c n e W) 8 17)), none, some (zi 0), none, none], [], zW L M1) = _ := r2
  have r3' : zmE (zmD zP (d+20)) zc_303 (59, [some (zr 98), some (zl (yHn (yFault w) 3 (yHn (yCoun w b c n e W) 8 17))), none, some (zi 0), none, none], [], zW L M2) = _ := r3
  rw [zen_303, zb_303_0, r1', r2', r3']
  show ∃ m', zmE (zmD zP (d+20)) zc_303 (59, [some (zr 98), some (zl (yDg1 w b c n e W)), none, some (zi 64), none, none], [], zW L M2) = _ ∧ _
  unfold yDig9
  generalize yDg1 w b c n e W = h1
  obtain ⟨N1, s1, f1, g1⟩ := yr_229 (L := L) (m := M2) (d + 19) c2.2
  obtain ⟨N2, s2, f2, g2⟩ := yr_246 (L := L) (m := N1) (d + 13) g1
  obtain ⟨N3, s3, f3, g3⟩ := yr_231 (L := L) (m := N2) (d + 13) g2 (-1) (by decide)
  obtain ⟨N4, s4, f4, g4⟩ := yr_260 (L := L) (m := N3) (d + 13) g3
  obtain ⟨N5, s5, f5, g5⟩ := yr_262 (L := L) (m := N4) (d + 13) g4 (-1) (by decide)
  obtain ⟨N6, s6, f6, g6⟩ := yr_262 (L := L) (m := N5) (d + 13) g5 0 (by decide)
  obtain ⟨N7, s7, f7, g7⟩ := yr_264 (L := L) (m := N6) (d + 13) g6 (-1) (by decide)
  obtain ⟨N8, s8, f8, g8⟩ := yr_268 (L := L) (m := N7) (d + 13) g7 2 (by decide)
  obtain ⟨N9, s9, f9, g9⟩ := yr_268 (L := L) (m := N8) (d + 13) g8 26 (by decide)
  obtain ⟨N10, s10, f10, g10⟩ := yr_231 (L := L) (m := N9) (d + 13) g9 0 (by decide)
  rw [if_pos rfl] at s3
  rw [if_neg (by decide)] at s10
  have s8' : zmD zP (d + 20) 268 [zr 98, zi 2] (zW L N7) = some (some (zi (yTbl 2 ((yMv b c).map (yWm W b)))), zW L N8) := s8
  have s9' : zmD zP (d + 20) 268 [zr 98, zi 26] (zW L N8) = some (some (zi (yTbl 26 ((yMv b c).map (yWm W b)))), zW L N9) := s9
  have cz : yRz m w b c n e W F Z N10 := ⟨yFr_tr (yFr_tr (yFr_tr (yFr_tr (yFr_tr (yFr_tr (yFr_tr (yFr_tr (yFr_tr (yFr_tr c2.1 f1) (yPm_fr f2)) (yPm_fr f3)) f4) f5) f6) f7) f8) f9) (yPm_fr f10), g10⟩
  have eh2 : yDg2 w b c W h1 = w64 (w64 (31 * w64 (w64 (31 * w64 (w64 (31 * w64 (w64 (31 * w64 (w64 (31 * w64 (w64 (31 * w64 (w64 (31 * w64 (w64 (31 * w64 (w64 (31 * h1) + (if c = 0 then 0 else 1))) + yStt b c)) + (yMv b c).length)) + ySumL (yNs b (yMv b c)) (yMv b c))) + yAsk ((yMv b c).filter (yMean b (w 1))) (-1))) + yAsk ((yMv b c).filter (yMean b (w 1))) 0)) + yAsk ((yMv b c).filter (yCould b (yMv b c) (w 1))) (-1))) + yTbl 2 ((yMv b c).map (yWm W b)))) + yTbl 26 ((yMv b c).map (yWm W b))) := rfl
  rw [zb_303_59, if_neg (by decide), zcv_98, s1, zbs, zmG_v, zb_303_97, zb_303_100, zcv_98, s2, zbs, zmG_v, zb_303_109, zb_303_112, zcv_98, s3, zbs, zmG_v, zb_303_122, zb_303_125, zcv_98, s4, zbs, zmG_v, zb_303_134, zb_303_137, zcv_98, s5, zbs, zmG_v, zb_303_147, zb_303_150, zcv_98, s6, zbs, zmG_v, zb_303_160, zb_303_163, zcv_98, s7, zbs, zmG_v, zb_303_173, zb_303_176, zcv_98, s8', zbs, zmG_v, zb_303_186, zb_303_189, zcv_98, s9', zbs, zmG_v, zb_303_200, zb_303_203, zcv_98, s10, zbs, zmG_v, zb_303_208, ← eh2]
  generalize yDg2 w b c W h1 = h2
  generalize ef : yGet (yMv b c) 0 = f at *
  -- the games
  have fin : ∀ (h3 l3 : Int) (o4 o5 : Option zmV) (M : Nat → Int → Int), yRz m w b c n e W F Z M → ∃ m', zmE (zmD zP (d+20)) zc_303 (281, [some (zr 98), some (zl h3), none, some (zi l3), o4, o5], [], zW L M) = some (some (zl (yDg4 w b c h3)), zW L m') ∧ yFr 98 117 m m' ∧ yRs m' w b c n e W F Z := fun h3 l3 o4 o5 M cM => by
    obtain ⟨M5, t1, t2⟩ := zk_303e (L := L) (m := m) d h3 l3 o5 3 0 M (by omega) cM
    have t1' : zmE (zmD zP (d+20)) zc_303 (284, [some (zr 98), some (zl h3), none, some (zi l3), some (zi 0), o5], [], zW L M) = _ := t1
    obtain ⟨M6, u1, u2, u3⟩ := yr_292 (L := L) (m := M5) (d + 11) t2.2 9
    rw [zb_303_281, t1', zb_303_284, if_neg (by decide), zcv_98, u1, zbs, zmG_v, zb_303_321]
    exact ⟨M6, rfl, yFr_tr t2.1 u2, u3⟩
  by_cases g : f = -1
  · rw [if_pos g, if_pos g]
    exact fin h2 f none none N10 cz
  · have hf : f ∈ yMv b c := by
      rw [← ef] at g ⊢
      exact yGet_0 hnn g
    have hns := yNs_in (b := b) (xs := yMv b c) (v := f)
    obtain ⟨P1, v1, v2, v3, v4⟩ := yr_252 (L := L) (m := N10) (d + 13) cz.2 f (-1) hf (by decide)
    rw [if_pos rfl] at v1
    have x1 := zk_303d (L := L) (m := P1) d v4 (w64 (w64 (31 * h2) + yNs b (yMv b c) f)) (yNs b (yMv b c) f).toNat 0 (by omega)
    have x1' : zmE (zmD zP (d+20)) zc_303 (235, [some (zr 98), some (zl (w64 (w64 (31 * h2) + yNs b (yMv b c) f))), none, some (zi f), some (zi (yNs b (yMv b c) f)), some (zi 0)], [], zW L P1) = _ := x1
    obtain ⟨P3, z1, z2, z3⟩ := yr_285 (L := L) (m := P1) (d + 12) v3 hf 9 (by decide) 50 (-1) (by decide) (by decide)
    rw [if_pos rfl] at z1
    have z1' : zmD zP (d + 20) 285 [zr 98, zi f, zi 9, zi 50, zi (-1)] (zW L P1) = some (some (zi (yTpk (yBv b f) (8 - c) W 50 9).length), zW L P3) := z1
    rw [if_neg g, if_neg g, zcv_98, v1, zbs, zmG_v, zb_303_220, zb_303_232, x1', zb_303_235, if_neg (by omega), zcv_98, z1', zbs, zmG_v, zb_303_278]
    exact fin _ f _ _ P3 ⟨yFr_tr (yFr_tr cz.1 v2) z2, z3⟩
end ZR
