/-! the digest, of the class -/
def yHx (h x : Int) : Int := w64 (w64 (31 * h) + x)
def yHn (f : Int → Int) : Nat → Int → Int
  | 0, h => h
  | n + 1, h => yHx (yHn f n h) (f n)
theorem yHn_s {f : Int → Int} {n : Nat} {h : Int} : yHn f (n + 1) h = w64 (w64 (31 * yHn f n h) + f n) := rfl
noncomputable def yDg1 (w : Int → List Int) (b : Int → Int) (c n e : Int) (W : Int → Int) : Int := yHn (fun s => zbyte (b s)) 64 (yHn (yFault w) 3 (yHn (yCoun w b c n e W) 8 17))
noncomputable def yDg2 (w : Int → List Int) (b : Int → Int) (c : Int) (W : Int → Int) (h : Int) : Int := yHx (yHx (yHx (yHx (yHx (yHx (yHx (yHx (yHx h (if c = 0 then 0 else 1)) (yStt b c)) (yMv b c).length) (ySumL (yNs b (yMv b c)) (yMv b c))) (yAsk ((yMv b c).filter (yMean b (w 1))) (-1))) (yAsk ((yMv b c).filter (yMean b (w 1))) 0)) (yAsk ((yMv b c).filter (yCould b (yMv b c) (w 1))) (-1))) (yTbl 2 ((yMv b c).map (yWm W b)))) (yTbl 26 ((yMv b c).map (yWm W b)))
noncomputable def yDg3 (b : Int → Int) (c : Int) (W : Int → Int) (f h : Int) : Int := yHx (yHn (yGet (yShS b (yMv b c) f)) (yNs b (yMv b c) f).toNat (yHx h (yNs b (yMv b c) f))) (yTpk (yBv b f) (8 - c) W 50 9).length
noncomputable def yDg4 (w : Int → List Int) (b : Int → Int) (c h : Int) : Int := yHx (yHn (yGt (yGa (w 2)) b c) 3 h) (yFa (yGa (w 2)) 9 (yGo (yGa (w 2)) b c).length (yGo (yGa (w 2)) b c).length)
noncomputable def yDig9 (w : Int → List Int) (b : Int → Int) (c n e : Int) (W : Int → Int) : Int := yDg4 w b c (if yGet (yMv b c) 0 = -1 then yDg2 w b c W (yDg1 w b c n e W) else yDg3 b c W (yGet (yMv b c) 0) (yDg2 w b c W (yDg1 w b c n e W)))
theorem yGet_0 {xs : List Int} (h : ∀ v ∈ xs, 0 ≤ v) (g : yGet xs 0 ≠ -1) : yGet xs 0 ∈ xs := by
  unfold yGet at g ⊢
  by_cases k : (0 : Int) ≤ 0 ∧ (0 : Int) < xs.length
  · rw [if_pos k]
    exact yMem_get.mpr ⟨0, by omega, rfl⟩
  · rw [if_neg k] at g
    exact absurd rfl g
section ZR
variable {L : Nat} {m : Nat → Int → Int} (D : Nat) {w : Int → List Int} {b : Int → Int} {c n e : Int} {W F : Int → Int} {Z : Int → List Int}
/-- a world of the class in the same state, from m on -/
def yCz (m : Nat → Int → Int) (w : Int → List Int) (b : Int → Int) (c n e : Int) (W F : Int → Int) (Z : Int → List Int) (M : Nat → Int → Int) : Prop := yFr 0 97 m M ∧ yCs M w b c n e W F Z
theorem zk_192a (h0 : Int) : ∀ (k i : Nat) (M : Nat → Int → Int), i + k = 8 → yCz m w b c n e W F Z M → ∃ m', zmE (zmD zP (D+20)) zc_192 (6, [some (zr 0), some (zl (yHn (yCoun w b c n e W) i h0)), none, some (zi i), none, none], [], zW L M) = zmE (zmD zP (D+20)) zc_192 (33, [some (zr 0), some (zl (yHn (yCoun w b c n e W) 8 h0)), none, some (zi 0), none, none], [], zW L m') ∧ yCz m w b c n e W F Z m' := fun k => by
  induction k with
  | zero =>
    intro i M hi f
    rw [show i = 8 by omega, zb_192_6, if_pos (by omega)]
    exact ⟨M, rfl, f⟩
  | succ k ih =>
    intro i M hi f
    obtain ⟨M2, r1, r2, r3⟩ := yk_190 (L := L) (m := M) (D + 11) f.2 i
    rw [zb_192_6, if_neg (by omega), zcv_0, r1, zbs, zmG_v, zb_192_22, zb_192_25, w32_of (by omega) (by omega), ← yHn_s]
    exact ih (i + 1) M2 (by omega) ⟨yFr_tr f.1 r2, r3⟩
theorem zk_192b (h0 : Int) : ∀ (k i : Nat) (M : Nat → Int → Int), i + k = 3 → yCz m w b c n e W F Z M → ∃ m', zmE (zmD zP (D+20)) zc_192 (33, [some (zr 0), some (zl (yHn (yFault w) i h0)), none, some (zi i), none, none], [], zW L M) = zmE (zmD zP (D+20)) zc_192 (63, [some (zr 0), some (zl (yHn (yFault w) 3 h0)), none, some (zi 0), none, none], [], zW L m') ∧ yCz m w b c n e W F Z m' := fun k => by
  induction k with
  | zero =>
    intro i M hi f
    rw [show i = 3 by omega, zb_192_33, zgr_0_0, zbs, zlen_1, zbs, if_neg (by omega)]
    exact ⟨M, rfl, f⟩
  | succ k ih =>
    intro i M hi f
    obtain ⟨M2, r1, r2, r3⟩ := yk_55 (L := L) (m := M) (D + 12) f.2 i
    rw [zb_192_33, zgr_0_0, zbs, zlen_1, zbs, if_pos (by omega), zcv_0, r1, zbs, zmG_v, zb_192_52, zb_192_55, w32_of (by omega) (by omega), ← yHn_s]
    exact ih (i + 1) M2 (by omega) ⟨yFr_tr f.1 r2, r3⟩
theorem zk_192c (h0 : Int) : ∀ (k i : Nat) (M : Nat → Int → Int), i + k = 64 → yCz m w b c n e W F Z M → ∃ m', zmE (zmD zP (D+20)) zc_192 (63, [some (zr 0), some (zl (yHn (fun s => zbyte (b s)) i h0)), none, some (zi i), none, none], [], zW L M) = zmE (zmD zP (D+20)) zc_192 (63, [some (zr 0), some (zl (yHn (fun s => zbyte (b s)) 64 h0)), none, some (zi 64), none, none], [], zW L m') ∧ yCz m w b c n e W F Z m' := fun k => by
  induction k with
  | zero =>
    intro i M hi f
    rw [show i = 64 by omega]
    exact ⟨M, rfl, f⟩
  | succ k ih =>
    intro i M hi f
    obtain ⟨M2, r1, r2, r3⟩ := yk_62 (L := L) (m := M) (D + 14) f.2 i
    rw [if_pos (by omega)] at r1
    have es : yHn (fun s => zbyte (b s)) (i + 1) h0 = w64 (w64 (31 * yHn (fun s => zbyte (b s)) i h0) + zbyte (b i)) := rfl
    rw [zb_192_63, if_pos (by omega), zcv_0, r1, zbs, zmG_v, zb_192_79, zb_192_82, w32_of (by omega) (by omega), ← es]
    exact ih (i + 1) M2 (by omega) ⟨yFr_tr f.1 r2, r3⟩
theorem zk_192d {f : Int} (hf : f ∈ yMv b c) (h0 : Int) : ∀ (k i : Nat) (M : Nat → Int → Int), i + k = (yNs b (yMv b c) f).toNat → yCz m w b c n e W F Z M → ∃ m', zmE (zmD zP (D+20)) zc_192 (235, [some (zr 0), some (zl (yHn (yGet (yShS b (yMv b c) f)) i h0)), none, some (zi f), some (zi (yNs b (yMv b c) f)), some (zi i)], [], zW L M) = zmE (zmD zP (D+20)) zc_192 (235, [some (zr 0), some (zl (yHn (yGet (yShS b (yMv b c) f)) (yNs b (yMv b c) f).toNat h0)), none, some (zi f), some (zi (yNs b (yMv b c) f)), some (zi (yNs b (yMv b c) f))], [], zW L m') ∧ yCz m w b c n e W F Z m' := fun k => by
  have hn := yNs_in (b := b) (xs := yMv b c) (v := f)
  have hr := (yMv_go hf).1
  induction k with
  | zero =>
    intro i M hi f1
    rw [show i = (yNs b (yMv b c) f).toNat by omega]
    exact ⟨M, by rw [show (((yNs b (yMv b c) f).toNat : Nat) : Int) = yNs b (yMv b c) f by omega], f1⟩
  | succ k ih =>
    intro i M hi f1
    obtain ⟨M2, r1, r2, r3⟩ := yk_116 (L := L) (m := M) (D + 12) f1.2 f i
    rw [if_pos ⟨hr, by omega⟩, yT_pos hf, if_neg (c := (1 : Int) = 0) (by decide), if_neg (by omega)] at r1
    rw [zb_192_235, if_pos (by omega), zcv_0, r1, zbs, zmG_v, zb_192_254, zb_192_257, w32_of (by omega) (by omega), ← yHn_s]
    exact ih (i + 1) M2 (by omega) ⟨yFr_tr f1.1 r2, r3⟩
theorem zk_192e (h0 l3 : Int) (o5 : Option zmV) : ∀ (k i : Nat) (M : Nat → Int → Int), i + k = 3 → yCz m w b c n e W F Z M → ∃ m', zmE (zmD zP (D+20)) zc_192 (284, [some (zr 0), some (zl (yHn (yGt (yGa (w 2)) b c) i h0)), none, some (zi l3), some (zi i), o5], [], zW L M) = zmE (zmD zP (D+20)) zc_192 (284, [some (zr 0), some (zl (yHn (yGt (yGa (w 2)) b c) 3 h0)), none, some (zi l3), some (zi 3), o5], [], zW L m') ∧ yCz m w b c n e W F Z m' := fun k => by
  induction k with
  | zero =>
    intro i M hi f
    rw [show i = 3 by omega]
    exact ⟨M, rfl, f⟩
  | succ k ih =>
    intro i M hi f
    obtain ⟨M2, r1, r2, r3⟩ := yk_153 (L := L) (m := M) (D + 10) f.2 i
    rw [if_pos (by omega)] at r1
    rw [zb_192_284, if_neg (by omega), zcv_0, r1, zbs, zmG_v, zb_192_301, zb_192_304, w32_of (by omega) (by omega), ← yHn_s]
    exact ih (i + 1) M2 (by omega) ⟨yFr_tr f.1 r2, r3⟩
theorem yk_192 (h : yCs m w b c n e W F Z) : ∃ m', zmD zP (D + 21) 192 [zr 0] (zW L m) = some (some (zl (yDig9 w b c n e W)), zW L m') ∧ yFr 0 97 m m' ∧ yCs m' w b c n e W F Z := by
  have hnn : ∀ v ∈ yMv b c, 0 ≤ v := fun v hv => (yMv_go hv).1.1
  obtain ⟨M1, r1, c1⟩ := zk_192a (L := L) (m := m) D 17 8 0 m (by omega) ⟨yFr_rfl, h⟩
  obtain ⟨M2, r2, c2⟩ := zk_192b (L := L) (m := m) D (yHn (yCoun w b c n e W) 8 17) 3 0 M1 (by omega) c1
  obtain ⟨M3, r3, c3⟩ := zk_192c (L := L) (m := m) D (yHn (yFault w) 3 (yHn (yCoun w b c n e W) 8 17)) 64 0 M2 (by omega) c2
  have r1' : zmE (zmD zP (D+20)) zc_192 (6, [some (zr 0), some (zl 17), none, some (zi 0), none, none], [], zW L m) = _ := r1
  have r2' : zmE (zmD zP (D+20)) zc_192 (33, [some (zr 0), some (zl (yHn (yCoun w b c n e W) 8 17)), none, some (zi 0), none, none], [], zW L M1) = _ := r2
  have r3' : zmE (zmD zP (D+20)) zc_192 (63, [some (zr 0), some (zl (yHn (yFault w) 3 (yHn (yCoun w b c n e W) 8 17))), none, some (zi 0), none, none], [], zW L M2) = _ := r3
  rw [zen_192, zb_192_0, r1', r2', r3']
  show ∃ m', zmE (zmD zP (D+20)) zc_192 (63, [some (zr 0), some (zl (yDg1 w b c n e W)), none, some (zi 64), none, none], [], zW L M3) = _ ∧ _
  unfold yDig9
  generalize yDg1 w b c n e W = h1
  obtain ⟨N1, s1, f1, g1⟩ := yk_71 (L := L) (m := M3) (D + 18) c3.2
  obtain ⟨N2, s2, f2, g2⟩ := yk_104 (L := L) (m := N1) (D + 14) g1
  obtain ⟨N3, s3, f3, g3⟩ := yk_73 (L := L) (m := N2) (D + 14) g2 (-1)
  obtain ⟨N4, s4, f4, g4⟩ := yk_121 (L := L) (m := N3) (D + 14) g3
  obtain ⟨N5, s5, f5, g5⟩ := yk_122 (L := L) (m := N4) (D + 12) g4 (-1)
  obtain ⟨N6, s6, f6, g6⟩ := yk_122 (L := L) (m := N5) (D + 12) g5 0
  obtain ⟨N7, s7, f7, g7⟩ := yk_125 (L := L) (m := N6) (D + 11) g6 (-1)
  obtain ⟨N8, s8, f8, g8⟩ := yk_128 (L := L) (m := N7) (D + 14) g7 2
  obtain ⟨N9, s9, f9, g9⟩ := yk_128 (L := L) (m := N8) (D + 14) g8 26
  obtain ⟨N10, s10, f10, g10⟩ := yk_73 (L := L) (m := N9) (D + 14) g9 0
  rw [if_neg (by decide), if_pos rfl] at s3
  rw [if_pos (by decide)] at s8 s9
  rw [if_neg (by decide), if_neg (by decide)] at s10
  have cz : yCz m w b c n e W F Z N10 := ⟨yFr_tr (yFr_tr (yFr_tr (yFr_tr (yFr_tr (yFr_tr (yFr_tr (yFr_tr (yFr_tr (yFr_tr c3.1 f1) f2) f3) f4) f5) f6) f7) f8) f9) f10, g10⟩
  have eh2 : yDg2 w b c W h1 = w64 (w64 (31 * w64 (w64 (31 * w64 (w64 (31 * w64 (w64 (31 * w64 (w64 (31 * w64 (w64 (31 * w64 (w64 (31 * w64 (w64 (31 * w64 (w64 (31 * h1) + (if c = 0 then 0 else 1))) + yStt b c)) + (yMv b c).length)) + ySumL (yNs b (yMv b c)) (yMv b c))) + yAsk ((yMv b c).filter (yMean b (w 1))) (-1))) + yAsk ((yMv b c).filter (yMean b (w 1))) 0)) + yAsk ((yMv b c).filter (yCould b (yMv b c) (w 1))) (-1))) + yTbl 2 ((yMv b c).map (yWm W b)))) + yTbl 26 ((yMv b c).map (yWm W b))) := rfl
  rw [zb_192_63, if_neg (by decide), zcv_0, s1, zbs, zmG_v, zb_192_97, zb_192_100, zcv_0, s2, zbs, zmG_v, zb_192_109, zb_192_112, zcv_0, s3, zbs, zmG_v, zb_192_122, zb_192_125, zcv_0, s4, zbs, zmG_v, zb_192_134, zb_192_137, zcv_0, s5, zbs, zmG_v, zb_192_147, zb_192_150, zcv_0, s6, zbs, zmG_v, zb_192_160, zb_192_163, zcv_0, s7, zbs, zmG_v, zb_192_173, zb_192_176, zcv_0, s8, zbs, zmG_v, zb_192_186, zb_192_189, zcv_0, s9, zbs, zmG_v, zb_192_200, zb_192_203, zcv_0, s10, zbs, zmG_v, zb_192_208, ← eh2]
  generalize yDg2 w b c W h1 = h2
  generalize ef : yGet (yMv b c) 0 = f at *
  -- the games
  have fin : ∀ (h3 l3 : Int) (o4 o5 : Option zmV) (M : Nat → Int → Int), yCz m w b c n e W F Z M → ∃ m', zmE (zmD zP (D+20)) zc_192 (281, [some (zr 0), some (zl h3), none, some (zi l3), o4, o5], [], zW L M) = some (some (zl (yDg4 w b c h3)), zW L m') ∧ yFr 0 97 m m' ∧ yCs m' w b c n e W F Z := fun h3 l3 o4 o5 M cM => by
    obtain ⟨M5, t1, t2⟩ := zk_192e (L := L) (m := m) D h3 l3 o5 3 0 M (by omega) cM
    have t1' : zmE (zmD zP (D+20)) zc_192 (284, [some (zr 0), some (zl h3), none, some (zi l3), some (zi 0), o5], [], zW L M) = _ := t1
    obtain ⟨M6, u1, u2, u3⟩ := yk_162 (L := L) (m := M5) (D + 10) t2.2 9
    rw [if_pos (by decide)] at u1
    rw [zb_192_281, t1', zb_192_284, if_pos (by decide), zcv_0, u1, zbs, zmG_v, zb_192_321]
    exact ⟨M6, rfl, yFr_tr t2.1 u2, u3⟩
  by_cases g : f = -1
  · rw [if_pos g, if_pos g]
    exact fin h2 f none none N10 cz
  · have hf : f ∈ yMv b c := by
      rw [← ef] at g ⊢
      exact yGet_0 hnn g
    have hr := (yMv_go hf).1
    have hns := yNs_in (b := b) (xs := yMv b c) (v := f)
    obtain ⟨P1, v1, v2, v3⟩ := yk_116 (L := L) (m := N10) (D + 12) cz.2 f (-1)
    rw [if_pos ⟨hr, by decide⟩, yT_pos hf, if_neg (c := (1 : Int) = 0) (by decide), if_pos rfl] at v1
    obtain ⟨P2, x1, x2⟩ := zk_192d (L := L) (m := m) D hf (w64 (w64 (31 * h2) + yNs b (yMv b c) f)) (yNs b (yMv b c) f).toNat 0 P1 (by omega) ⟨yFr_tr cz.1 v2, v3⟩
    have x1' : zmE (zmD zP (D+20)) zc_192 (235, [some (zr 0), some (zl (w64 (w64 (31 * h2) + yNs b (yMv b c) f))), none, some (zi f), some (zi (yNs b (yMv b c) f)), some (zi 0)], [], zW L P1) = _ := x1
    obtain ⟨P3, z1, z2, z3⟩ := yk_149 (L := L) (m := P2) (D + 13) x2.2 f 9 50 (-1)
    have ea : yAhV b c W f 9 50 (-1) = (yTpk (yBv b f) (8 - c) W 50 9).length := by
      unfold yAhV
      rw [if_pos ⟨hr, by decide, by decide, by decide⟩, yT_pos hf, if_neg (c := (1 : Int) = 0) (by decide), if_pos rfl]
    rw [ea] at z1
    rw [if_neg g, if_neg g, zcv_0, v1, zbs, zmG_v, zb_192_220, zb_192_232, x1', zb_192_235, if_neg (by omega), zcv_0, z1, zbs, zmG_v, zb_192_278]
    exact fin _ f _ _ P3 ⟨yFr_tr x2.1 z2, z3⟩
end ZR
