/-! the law's cases: class and reference answer alike -/
section ZR
variable {L : Nat} {xs : Nat → Int32} {m m1 m2 : Nat → Int → Int} {N : Int} (D : Nat) {w : Int → List Int} {b : Int → Int} {c n e : Int} {W F : Int → Int} {Z : Int → List Int}
theorem yInt_x (x : Int32) : yInt x.toInt := by
  have h1 := x.toInt_lt
  have h2 := x.le_toInt
  unfold yInt
  omega
theorem yj_r (h : yRs m w b c n e W F Z) (f : yFr 0 97 m m1) : yRs m1 w b c n e W F Z := yRs_fr (P := fun x _ => x ≤ 97) h (yFq_fr f fun x j _ x2 => x2) fun x j q => by
  unfold yHoldR at q
  omega
theorem yj_c (h : yCs m w b c n e W F Z) (f : yFr 98 117 m m1) : yCs m1 w b c n e W F Z := yCs_fr (P := fun x _ => 98 ≤ x ∧ x ≤ 117) h (yFq_fr f fun x j x1 x2 => ⟨x1, x2⟩) fun x j q => by
  unfold yHold at q
  omega
theorem yj_x (h : ∀ j : Int, m (zXB + 30) j = (xs j.toNat).toInt) (f1 : yFr 0 97 m m1) : ∀ j : Int, m1 (zXB + 30) j = (xs j.toNat).toInt := fun j => by
  rw [f1 (zXB + 30) (.inr (by unfold zXB; omega))]
  exact h j
theorem yj_y (h : ∀ j : Int, m (zXB + 30) j = (xs j.toNat).toInt) (f1 : yFr 98 117 m m1) : ∀ j : Int, m1 (zXB + 30) j = (xs j.toNat).toInt := fun j => by
  rw [f1 (zXB + 30) (.inr (by unfold zXB; omega))]
  exact h j
theorem zaX (hX : ∀ j : Int, m (zXB + 30) j = (xs j.toNat).toInt) {j : Int} (h : 0 ≤ j) (h2 : j < L) : zAI (zW L m) 100 (zXB + 30) j = some (xs j.toNat).toInt := (zw_ai (congrArg Prod.fst zhx_30) h (by rw [zhx_30]; exact h2)).trans (by rw [hX])
theorem zlX (hL : L ≤ 3072) : zLen (zW L m) (zXB + 30) = some (L : Int) := (zw_len (by rw [zhx_30]; exact Nat.le_refl 100) (by rw [zhx_30]; show L ≤ 100000; omega)).trans (by rw [zhx_30])
theorem yRdS_le : (yRdS (Z e) b c).1 ≤ (Z e).length := (yRdS_in (Z e) b c).2
theorem zl_0 (h : yJt xs m N) (hN : N ≤ 900000000) (hL : L ≤ 3072) {i : Int} (h0 : 0 ≤ i) (h1 : i + 6 ≤ L) (hk : z_and (xs i.toNat).toInt 63 = 0) : ∃ m', zmE (zmD zP (D+40)) zc_law (18, [some (zr (zXB + 30)), some (zr 0), some (zr 98), some (zi i)], [], zW L m) = zmE (zmD zP (D+40)) zc_law (1101, [some (zr (zXB + 30)), some (zr 0), some (zr 98), some (zi i)], [], zW L m') ∧ yJt xs m' (N + 61) := by
  obtain ⟨w, b, c, n, e, W, F, Z, hC, hR, ⟨n1, n2⟩, hX⟩ := h
  obtain ⟨m1, r1, f1, p1, p2⟩ := yk_14 (L := L) (m := m) (D + 30) hC ((xs (i + 1).toNat).toInt) ((xs (i + 2).toNat).toInt)
  have hX1 := yj_x hX f1
  have hp : (xs (i + 1).toNat).toInt = 0 → yPu (yHome (w 0 ++ [(xs (i + 2).toNat).toInt])).2.1 (yHome (w 0 ++ [(xs (i + 2).toNat).toInt])).2.2 ∨ ¬ (w 0).length < 80 ∨ ¬ (0 ≤ (xs (i + 2).toNat).toInt ∧ (xs (i + 2).toNat).toInt ≤ 255) := fun ht => by
    by_cases g : ((0 ≤ (xs (i + 1).toNat).toInt ∧ (xs (i + 1).toNat).toInt ≤ 2) ∧ 0 ≤ (xs (i + 2).toNat).toInt ∧ (xs (i + 2).toNat).toInt ≤ 255) ∧ (w ((xs (i + 1).toNat).toInt)).length < yCap ((xs (i + 1).toNat).toInt)
    · have q := (p2 g).1 ht
      rw [ht] at q
      exact .inl (yCs_pu q)
    · rw [ht] at g
      by_cases g1 : 0 ≤ (xs (i + 2).toNat).toInt ∧ (xs (i + 2).toNat).toInt ≤ 255
      · by_cases g2 : (w 0).length < 80
        · exact absurd ⟨⟨by decide, g1⟩, g2⟩ g
        · exact .inr (.inl g2)
      · exact .inr (.inr g1)
  obtain ⟨m2, r2, f2, q1, q2⟩ := yr_212 (L := L) (m := m1) (D + 34) (yj_r hR f1) ((xs (i + 1).toNat).toInt) ((xs (i + 2).toNat).toInt) hp
  refine ⟨m2, ?_, ?_⟩
  · rw [zb_law_18, zlX hL, zbs, w32_of (z := (L : Int) - 6) (by omega) (by omega), if_neg (by omega), zaX hX h0 (by omega), zbs, hk]
    simp only [Int.reduceEq, reduceIte]
    rw [w32_of (z := i + 1) (by omega) (by omega), zaX hX (j := i + 1) (by omega) (by omega), zbs, w32_of (z := i + 2) (by omega) (by omega), zaX hX (j := i + 2) (by omega) (by omega), zbs, zcv_0, r1, zbs, zmG_v, zb_law_194, w32_of (z := i + 1) (by omega) (by omega), zaX hX1 (j := i + 1) (by omega) (by omega), zbs, w32_of (z := i + 2) (by omega) (by omega), zaX hX1 (j := i + 2) (by omega) (by omega), zbs, zcv_98, r2, zbs, zmG_v, zb_law_208, if_pos rfl]
  · by_cases g : ((0 ≤ (xs (i + 1).toNat).toInt ∧ (xs (i + 1).toNat).toInt ≤ 2) ∧ 0 ≤ (xs (i + 2).toNat).toInt ∧ (xs (i + 2).toNat).toInt ≤ 255) ∧ (w ((xs (i + 1).toNat).toInt)).length < yCap ((xs (i + 1).toNat).toInt)
    · by_cases gt : (xs (i + 1).toNat).toInt = 0
      · exact ⟨_, _, _, _, _, _, _, _, yj_c ((p2 g).1 gt) f2, (q2 g).1 gt, ⟨Int.le_refl 0, by omega⟩, yj_y hX1 f2⟩
      · exact ⟨_, _, _, _, _, _, _, _, yj_c ((p2 g).2 gt) f2, (q2 g).2 gt, ⟨by omega, by omega⟩, yj_y hX1 f2⟩
    · exact ⟨_, _, _, _, _, _, _, _, yj_c (p1 g) f2, q1 g, ⟨by omega, by omega⟩, yj_y hX1 f2⟩
theorem zl_1 (h : yJt xs m N) (hN : N ≤ 900000000) (hL : L ≤ 3072) {i : Int} (h0 : 0 ≤ i) (h1 : i + 6 ≤ L) (hk : z_and (xs i.toNat).toInt 63 = 1) : ∃ m', zmE (zmD zP (D+40)) zc_law (18, [some (zr (zXB + 30)), some (zr 0), some (zr 98), some (zi i)], [], zW L m) = zmE (zmD zP (D+40)) zc_law (1101, [some (zr (zXB + 30)), some (zr 0), some (zr 98), some (zi i)], [], zW L m') ∧ yJt xs m' (N + 61) := by
  obtain ⟨w, b, c, n, e, W, F, Z, hC, hR, ⟨n1, n2⟩, hX⟩ := h
  obtain ⟨m1, r1, f1, p1, p2⟩ := yk_53 (L := L) (m := m) (D + 30) hC ((xs (i + 1).toNat).toInt)
  have hX1 := yj_x hX f1
  have hp : (xs (i + 1).toNat).toInt = 0 → yPu (yHome []).2.1 (yHome []).2.2 := fun ht => by
    rw [yHome_nil]
    exact yPu_0
  obtain ⟨m2, r2, f2, q1, q2⟩ := yr_214 (L := L) (m := m1) (D + 34) (yj_r hR f1) ((xs (i + 1).toNat).toInt) hp
  refine ⟨m2, ?_, ?_⟩
  · rw [zb_law_18, zlX hL, zbs, w32_of (z := (L : Int) - 6) (by omega) (by omega), if_neg (by omega), zaX hX h0 (by omega), zbs, hk]
    simp only [Int.reduceEq, reduceIte]
    rw [w32_of (z := i + 1) (by omega) (by omega), zaX hX (j := i + 1) (by omega) (by omega), zbs, zcv_0, r1, zbs, zmG_v, zb_law_222, w32_of (z := i + 1) (by omega) (by omega), zaX hX1 (j := i + 1) (by omega) (by omega), zbs, zcv_98, r2, zbs, zmG_v, zb_law_231, if_pos rfl]
  · by_cases g : 0 ≤ (xs (i + 1).toNat).toInt ∧ (xs (i + 1).toNat).toInt ≤ 2
    · by_cases gt : (xs (i + 1).toNat).toInt = 0
      · exact ⟨_, _, _, _, _, _, _, _, yj_c ((p2 g).1 gt) f2, (q2 g).1 gt, ⟨Int.le_refl 0, by omega⟩, yj_y hX1 f2⟩
      · exact ⟨_, _, _, _, _, _, _, _, yj_c ((p2 g).2 gt) f2, (q2 g).2 gt, ⟨by omega, by omega⟩, yj_y hX1 f2⟩
    · exact ⟨_, _, _, _, _, _, _, _, yj_c (p1 g) f2, q1 g, ⟨by omega, by omega⟩, yj_y hX1 f2⟩
theorem zl_2 (h : yJt xs m N) (hN : N ≤ 900000000) (hL : L ≤ 3072) {i : Int} (h0 : 0 ≤ i) (h1 : i + 6 ≤ L) (hk : z_and (xs i.toNat).toInt 63 = 2) : ∃ m', zmE (zmD zP (D+40)) zc_law (18, [some (zr (zXB + 30)), some (zr 0), some (zr 98), some (zi i)], [], zW L m) = zmE (zmD zP (D+40)) zc_law (1101, [some (zr (zXB + 30)), some (zr 0), some (zr 98), some (zi i)], [], zW L m') ∧ yJt xs m' (N + 61) := by
  obtain ⟨w, b, c, n, e, W, F, Z, hC, hR, ⟨n1, n2⟩, hX⟩ := h
  obtain ⟨m1, r1, f1, c1⟩ := yk_55 (L := L) (m := m) (D + 32) hC ((xs (i + 1).toNat).toInt)
  have hX1 := yj_x hX f1
  obtain ⟨m2, r2, f2, c2⟩ := yr_215 (L := L) (m := m1) (D + 33) (yj_r hR f1) ((xs (i + 1).toNat).toInt)
  refine ⟨m2, ?_, ?_⟩
  · rw [zb_law_18, zlX hL, zbs, w32_of (z := (L : Int) - 6) (by omega) (by omega), if_neg (by omega), zaX hX h0 (by omega), zbs, hk]
    simp only [Int.reduceEq, reduceIte]
    rw [w32_of (z := i + 1) (by omega) (by omega), zaX hX (j := i + 1) (by omega) (by omega), zbs, zcv_0, r1, zbs, zmG_v, zb_law_245, w32_of (z := i + 1) (by omega) (by omega), zaX hX1 (j := i + 1) (by omega) (by omega), zbs, zcv_98, r2, zbs, zmG_v, zb_law_254, if_pos rfl]
  · exact ⟨w, b, c, n, e, W, F, Z, yj_c c1 f2, c2, ⟨by omega, by omega⟩, yj_y hX1 f2⟩
theorem zl_3 (h : yJt xs m N) (hN : N ≤ 900000000) (hL : L ≤ 3072) {i : Int} (h0 : 0 ≤ i) (h1 : i + 6 ≤ L) (hk : z_and (xs i.toNat).toInt 63 = 3) : ∃ m', zmE (zmD zP (D+40)) zc_law (18, [some (zr (zXB + 30)), some (zr 0), some (zr 98), some (zi i)], [], zW L m) = zmE (zmD zP (D+40)) zc_law (1101, [some (zr (zXB + 30)), some (zr 0), some (zr 98), some (zi i)], [], zW L m') ∧ yJt xs m' (N + 61) := by
  obtain ⟨w, b, c, n, e, W, F, Z, hC, hR, ⟨n1, n2⟩, hX⟩ := h
  obtain ⟨m1, r1, f1, c1⟩ := yk_62 (L := L) (m := m) (D + 34) hC ((xs (i + 1).toNat).toInt)
  have hX1 := yj_x hX f1
  obtain ⟨m2, r2, f2, c2⟩ := yr_225 (L := L) (m := m1) (D + 37) (yj_r hR f1) ((xs (i + 1).toNat).toInt)
  refine ⟨m2, ?_, ?_⟩
  · rw [zb_law_18, zlX hL, zbs, w32_of (z := (L : Int) - 6) (by omega) (by omega), if_neg (by omega), zaX hX h0 (by omega), zbs, hk]
    simp only [Int.reduceEq, reduceIte]
    rw [w32_of (z := i + 1) (by omega) (by omega), zaX hX (j := i + 1) (by omega) (by omega), zbs, zcv_0, r1, zbs, zmG_v, zb_law_268, w32_of (z := i + 1) (by omega) (by omega), zaX hX1 (j := i + 1) (by omega) (by omega), zbs, zcv_98, r2, zbs, zmG_v, zb_law_277, if_pos rfl]
  · exact ⟨w, b, c, n, e, W, F, Z, yj_c c1 f2, c2, ⟨by omega, by omega⟩, yj_y hX1 f2⟩
theorem zl_4 (h : yJt xs m N) (hN : N ≤ 900000000) (hL : L ≤ 3072) {i : Int} (h0 : 0 ≤ i) (h1 : i + 6 ≤ L) (hk : z_and (xs i.toNat).toInt 63 = 4) : ∃ m', zmE (zmD zP (D+40)) zc_law (18, [some (zr (zXB + 30)), some (zr 0), some (zr 98), some (zi i)], [], zW L m) = zmE (zmD zP (D+40)) zc_law (1101, [some (zr (zXB + 30)), some (zr 0), some (zr 98), some (zi i)], [], zW L m') ∧ yJt xs m' (N + 61) := by
  obtain ⟨w, b, c, n, e, W, F, Z, hC, hR, ⟨n1, n2⟩, hX⟩ := h
  obtain ⟨m1, r1, f1, c1⟩ := yk_71 (L := L) (m := m) (D + 38) hC 
  have hX1 := yj_x hX f1
  obtain ⟨m2, r2, f2, c2⟩ := yr_229 (L := L) (m := m1) (D + 39) (yj_r hR f1) 
  refine ⟨m2, ?_, ?_⟩
  · rw [zb_law_18, zlX hL, zbs, w32_of (z := (L : Int) - 6) (by omega) (by omega), if_neg (by omega), zaX hX h0 (by omega), zbs, hk]
    simp only [Int.reduceEq, reduceIte]
    rw [zcv_0, r1, zbs, zmG_v, zb_law_286, zcv_98, r2, zbs, zmG_v, zb_law_290, if_pos rfl]
  · exact ⟨w, b, c, n, e, W, F, Z, yj_c c1 f2, c2, ⟨by omega, by omega⟩, yj_y hX1 f2⟩
theorem zl_5 (h : yJt xs m N) (hN : N ≤ 900000000) (hL : L ≤ 3072) {i : Int} (h0 : 0 ≤ i) (h1 : i + 6 ≤ L) (hk : z_and (xs i.toNat).toInt 63 = 5) : ∃ m', zmE (zmD zP (D+40)) zc_law (18, [some (zr (zXB + 30)), some (zr 0), some (zr 98), some (zi i)], [], zW L m) = zmE (zmD zP (D+40)) zc_law (1101, [some (zr (zXB + 30)), some (zr 0), some (zr 98), some (zi i)], [], zW L m') ∧ yJt xs m' (N + 61) := by
  obtain ⟨w, b, c, n, e, W, F, Z, hC, hR, ⟨n1, n2⟩, hX⟩ := h
  obtain ⟨m1, r1, f1, c1⟩ := yk_73 (L := L) (m := m) (D + 34) hC ((xs (i + 1).toNat).toInt)
  have hX1 := yj_x hX f1
  obtain ⟨m2, r2, f2, c2⟩ := yr_230 (L := L) (m := m1) (D + 32) (yj_r hR f1) ((xs (i + 1).toNat).toInt)
  refine ⟨m2, ?_, ?_⟩
  · rw [zb_law_18, zlX hL, zbs, w32_of (z := (L : Int) - 6) (by omega) (by omega), if_neg (by omega), zaX hX h0 (by omega), zbs, hk]
    simp only [Int.reduceEq, reduceIte]
    rw [w32_of (z := i + 1) (by omega) (by omega), zaX hX (j := i + 1) (by omega) (by omega), zbs, zcv_0, r1, zbs, zmG_v, zb_law_304, w32_of (z := i + 1) (by omega) (by omega), zaX hX1 (j := i + 1) (by omega) (by omega), zbs, zcv_98, r2, zbs, zmG_v, zb_law_313, if_pos rfl]
  · exact ⟨w, b, c, n, e, W, F, Z, yj_c c1 f2, c2, ⟨by omega, by omega⟩, yj_y hX1 f2⟩
theorem zl_6 (h : yJt xs m N) (hN : N ≤ 900000000) (hL : L ≤ 3072) {i : Int} (h0 : 0 ≤ i) (h1 : i + 6 ≤ L) (hk : z_and (xs i.toNat).toInt 63 = 6) : ∃ m', zmE (zmD zP (D+40)) zc_law (18, [some (zr (zXB + 30)), some (zr 0), some (zr 98), some (zi i)], [], zW L m) = zmE (zmD zP (D+40)) zc_law (1101, [some (zr (zXB + 30)), some (zr 0), some (zr 98), some (zi i)], [], zW L m') ∧ yJt xs m' (N + 61) := by
  obtain ⟨w, b, c, n, e, W, F, Z, hC, hR, ⟨n1, n2⟩, hX⟩ := h
  obtain ⟨m1, r1, f1, c1⟩ := yk_100 (L := L) (m := m) (D + 33) hC ((xs (i + 1).toNat).toInt)
  have hX1 := yj_x hX f1
  obtain ⟨m2, r2, f2, c2⟩ := yr_243 (L := L) (m := m1) (D + 34) (yj_r hR f1) ((xs (i + 1).toNat).toInt)
  refine ⟨m2, ?_, ?_⟩
  · rw [zb_law_18, zlX hL, zbs, w32_of (z := (L : Int) - 6) (by omega) (by omega), if_neg (by omega), zaX hX h0 (by omega), zbs, hk]
    simp only [Int.reduceEq, reduceIte]
    rw [w32_of (z := i + 1) (by omega) (by omega), zaX hX (j := i + 1) (by omega) (by omega), zbs, zcv_0, r1, zbs, zmG_v, zb_law_327, w32_of (z := i + 1) (by omega) (by omega), zaX hX1 (j := i + 1) (by omega) (by omega), zbs, zcv_98, r2, zbs, zmG_v, zb_law_336, if_pos rfl]
  · exact ⟨w, b, c, n, e, W, F, Z, yj_c c1 f2, c2, ⟨by omega, by omega⟩, yj_y hX1 f2⟩
theorem zl_7 (h : yJt xs m N) (hN : N ≤ 900000000) (hL : L ≤ 3072) {i : Int} (h0 : 0 ≤ i) (h1 : i + 6 ≤ L) (hk : z_and (xs i.toNat).toInt 63 = 7) : ∃ m', zmE (zmD zP (D+40)) zc_law (18, [some (zr (zXB + 30)), some (zr 0), some (zr 98), some (zi i)], [], zW L m) = zmE (zmD zP (D+40)) zc_law (1101, [some (zr (zXB + 30)), some (zr 0), some (zr 98), some (zi i)], [], zW L m') ∧ yJt xs m' (N + 61) := by
  obtain ⟨w, b, c, n, e, W, F, Z, hC, hR, ⟨n1, n2⟩, hX⟩ := h
  obtain ⟨m1, r1, f1, c1⟩ := yk_104 (L := L) (m := m) (D + 34) hC 
  have hX1 := yj_x hX f1
  obtain ⟨m2, r2, f2, c2⟩ := yr_245 (L := L) (m := m1) (D + 32) (yj_r hR f1) 
  refine ⟨m2, ?_, ?_⟩
  · rw [zb_law_18, zlX hL, zbs, w32_of (z := (L : Int) - 6) (by omega) (by omega), if_neg (by omega), zaX hX h0 (by omega), zbs, hk]
    simp only [Int.reduceEq, reduceIte]
    rw [zcv_0, r1, zbs, zmG_v, zb_law_345, zcv_98, r2, zbs, zmG_v, zb_law_349, if_pos rfl]
  · exact ⟨w, b, c, n, e, W, F, Z, yj_c c1 f2, c2, ⟨by omega, by omega⟩, yj_y hX1 f2⟩
theorem zl_8 (h : yJt xs m N) (hN : N ≤ 900000000) (hL : L ≤ 3072) {i : Int} (h0 : 0 ≤ i) (h1 : i + 6 ≤ L) (hk : z_and (xs i.toNat).toInt 63 = 8) : ∃ m', zmE (zmD zP (D+40)) zc_law (18, [some (zr (zXB + 30)), some (zr 0), some (zr 98), some (zi i)], [], zW L m) = zmE (zmD zP (D+40)) zc_law (1101, [some (zr (zXB + 30)), some (zr 0), some (zr 98), some (zi i)], [], zW L m') ∧ yJt xs m' (N + 61) := by
  obtain ⟨w, b, c, n, e, W, F, Z, hC, hR, ⟨n1, n2⟩, hX⟩ := h
  obtain ⟨m1, r1, f1, p1, p2⟩ := yk_106 (L := L) (m := m) (D + 32) hC ⟨by omega, by omega⟩ ((xs (i + 1).toNat).toInt)
  have hX1 := yj_x hX f1
  obtain ⟨m2, r2, f2, q1, q2⟩ := yr_247 (L := L) (m := m1) (D + 34) (yj_r hR f1) ⟨by omega, by omega⟩ ((xs (i + 1).toNat).toInt)
  refine ⟨m2, ?_, ?_⟩
  · rw [zb_law_18, zlX hL, zbs, w32_of (z := (L : Int) - 6) (by omega) (by omega), if_neg (by omega), zaX hX h0 (by omega), zbs, hk]
    simp only [Int.reduceEq, reduceIte]
    rw [w32_of (z := i + 1) (by omega) (by omega), zaX hX (j := i + 1) (by omega) (by omega), zbs, zcv_0, r1, zbs, zmG_v, zb_law_363, w32_of (z := i + 1) (by omega) (by omega), zaX hX1 (j := i + 1) (by omega) (by omega), zbs, zcv_98, r2, zbs, zmG_v, zb_law_372, if_pos rfl]
  · by_cases g : (xs (i + 1).toNat).toInt ∈ yMv b c
    · exact ⟨_, _, _, _, _, _, _, _, yj_c (p2 g) f2, q2 g, ⟨by omega, by omega⟩, yj_y hX1 f2⟩
    · exact ⟨_, _, _, _, _, _, _, _, yj_c (p1 g) f2, q1 g, ⟨by omega, by omega⟩, yj_y hX1 f2⟩
theorem zl_9 (h : yJt xs m N) (hN : N ≤ 900000000) (hL : L ≤ 3072) {i : Int} (h0 : 0 ≤ i) (h1 : i + 6 ≤ L) (hk : z_and (xs i.toNat).toInt 63 = 9) : ∃ m', zmE (zmD zP (D+40)) zc_law (18, [some (zr (zXB + 30)), some (zr 0), some (zr 98), some (zi i)], [], zW L m) = zmE (zmD zP (D+40)) zc_law (1101, [some (zr (zXB + 30)), some (zr 0), some (zr 98), some (zi i)], [], zW L m') ∧ yJt xs m' (N + 61) := by
  obtain ⟨w, b, c, n, e, W, F, Z, hC, hR, ⟨n1, n2⟩, hX⟩ := h
  have hz := yCs_fz hC
  obtain ⟨m1, r1, f1, p1, p2⟩ := yk_109 (L := L) (m := m) (D + 32) hC ⟨by omega, by omega⟩ ((xs (i + 1).toNat).toInt)
  have hX1 := yj_x hX f1
  obtain ⟨m2, r2, f2, q1, q2⟩ := yr_249 (L := L) (m := m1) (D + 33) (yj_r hR f1) hz ⟨by omega, by omega⟩ ((xs (i + 1).toNat).toInt)
  refine ⟨m2, ?_, ?_⟩
  · rw [zb_law_18, zlX hL, zbs, w32_of (z := (L : Int) - 6) (by omega) (by omega), if_neg (by omega), zaX hX h0 (by omega), zbs, hk]
    simp only [Int.reduceEq, reduceIte]
    rw [w32_of (z := i + 1) (by omega) (by omega), zaX hX (j := i + 1) (by omega) (by omega), zbs, zcv_0, r1, zbs, zmG_v, zb_law_386, w32_of (z := i + 1) (by omega) (by omega), zaX hX1 (j := i + 1) (by omega) (by omega), zbs, zcv_98, r2, zbs, zmG_v, zb_law_395, if_pos rfl]
  · by_cases g : 0 ≤ (xs (i + 1).toNat).toInt ∧ (xs (i + 1).toNat).toInt < 4
    · by_cases gf : F ((xs (i + 1).toNat).toInt) = -1
      · exact ⟨_, _, _, _, _, _, _, _, yj_c ((p2 g).1 gf) f2, (q2 g).1 gf, ⟨by omega, by omega⟩, yj_y hX1 f2⟩
      · have hl := (yCs_fz hC _ g).2 gf
        have hr := yRdS_in (Z ((xs (i + 1).toNat).toInt)) b c
        exact ⟨_, _, _, _, _, _, _, _, yj_c ((p2 g).2 gf) f2, (q2 g).2 gf, ⟨by omega, by omega⟩, yj_y hX1 f2⟩
    · exact ⟨_, _, _, _, _, _, _, _, yj_c (p1 g) f2, q1 g, ⟨by omega, by omega⟩, yj_y hX1 f2⟩
theorem zl_10 (h : yJt xs m N) (hN : N ≤ 900000000) (hL : L ≤ 3072) {i : Int} (h0 : 0 ≤ i) (h1 : i + 6 ≤ L) (hk : z_and (xs i.toNat).toInt 63 = 10) : ∃ m', zmE (zmD zP (D+40)) zc_law (18, [some (zr (zXB + 30)), some (zr 0), some (zr 98), some (zi i)], [], zW L m) = zmE (zmD zP (D+40)) zc_law (1101, [some (zr (zXB + 30)), some (zr 0), some (zr 98), some (zi i)], [], zW L m') ∧ yJt xs m' (N + 61) := by
  obtain ⟨w, b, c, n, e, W, F, Z, hC, hR, ⟨n1, n2⟩, hX⟩ := h
  obtain ⟨m1, r1, f1, p1⟩ := yk_115 (L := L) (m := m) (D + 31) hC 
  have hX1 := yj_x hX f1
  obtain ⟨m2, r2, f2, q1⟩ := yr_250 (L := L) (m := m1) (D + 34) (yj_r hR f1)  (yCs_pu p1)
  refine ⟨m2, ?_, ?_⟩
  · rw [zb_law_18, zlX hL, zbs, w32_of (z := (L : Int) - 6) (by omega) (by omega), if_neg (by omega), zaX hX h0 (by omega), zbs, hk]
    simp only [Int.reduceEq, reduceIte]
    rw [zcv_0, r1, zbs, zmG_v, zb_law_404, zcv_98, r2, zbs, zmG_v, zb_law_408, if_pos rfl]
  · exact ⟨_, _, _, _, _, _, _, _, yj_c (p1) f2, q1, ⟨Int.le_refl 0, by omega⟩, yj_y hX1 f2⟩
theorem zl_11 (h : yJt xs m N) (hN : N ≤ 900000000) (hL : L ≤ 3072) {i : Int} (h0 : 0 ≤ i) (h1 : i + 6 ≤ L) (hk : z_and (xs i.toNat).toInt 63 = 11) : ∃ m', zmE (zmD zP (D+40)) zc_law (18, [some (zr (zXB + 30)), some (zr 0), some (zr 98), some (zi i)], [], zW L m) = zmE (zmD zP (D+40)) zc_law (1101, [some (zr (zXB + 30)), some (zr 0), some (zr 98), some (zi i)], [], zW L m') ∧ yJt xs m' (N + 61) := by
  obtain ⟨w, b, c, n, e, W, F, Z, hC, hR, ⟨n1, n2⟩, hX⟩ := h
  obtain ⟨m1, r1, f1, c1⟩ := yk_116 (L := L) (m := m) (D + 32) hC ((xs (i + 1).toNat).toInt) ((xs (i + 2).toNat).toInt)
  have hX1 := yj_x hX f1
  obtain ⟨m2, r2, f2, c2⟩ := yr_251 (L := L) (m := m1) (D + 32) (yj_r hR f1) ((xs (i + 1).toNat).toInt) ((xs (i + 2).toNat).toInt)
  refine ⟨m2, ?_, ?_⟩
  · rw [zb_law_18, zlX hL, zbs, w32_of (z := (L : Int) - 6) (by omega) (by omega), if_neg (by omega), zaX hX h0 (by omega), zbs, hk]
    simp only [Int.reduceEq, reduceIte]
    rw [w32_of (z := i + 1) (by omega) (by omega), zaX hX (j := i + 1) (by omega) (by omega), zbs, w32_of (z := i + 2) (by omega) (by omega), zaX hX (j := i + 2) (by omega) (by omega), zbs, zcv_0, r1, zbs, zmG_v, zb_law_427, w32_of (z := i + 1) (by omega) (by omega), zaX hX1 (j := i + 1) (by omega) (by omega), zbs, w32_of (z := i + 2) (by omega) (by omega), zaX hX1 (j := i + 2) (by omega) (by omega), zbs, zcv_98, r2, zbs, zmG_v, zb_law_441, if_pos rfl]
  · exact ⟨w, b, c, n, e, W, F, Z, yj_c c1 f2, c2, ⟨by omega, by omega⟩, yj_y hX1 f2⟩
theorem zl_12 (h : yJt xs m N) (hN : N ≤ 900000000) (hL : L ≤ 3072) {i : Int} (h0 : 0 ≤ i) (h1 : i + 6 ≤ L) (hk : z_and (xs i.toNat).toInt 63 = 12) : ∃ m', zmE (zmD zP (D+40)) zc_law (18, [some (zr (zXB + 30)), some (zr 0), some (zr 98), some (zi i)], [], zW L m) = zmE (zmD zP (D+40)) zc_law (1101, [some (zr (zXB + 30)), some (zr 0), some (zr 98), some (zi i)], [], zW L m') ∧ yJt xs m' (N + 61) := by
  obtain ⟨w, b, c, n, e, W, F, Z, hC, hR, ⟨n1, n2⟩, hX⟩ := h
  obtain ⟨m1, r1, f1, c1⟩ := yk_121 (L := L) (m := m) (D + 34) hC 
  have hX1 := yj_x hX f1
  obtain ⟨m2, r2, f2, c2⟩ := yr_259 (L := L) (m := m1) (D + 32) (yj_r hR f1) 
  refine ⟨m2, ?_, ?_⟩
  · rw [zb_law_18, zlX hL, zbs, w32_of (z := (L : Int) - 6) (by omega) (by omega), if_neg (by omega), zaX hX h0 (by omega), zbs, hk]
    simp only [Int.reduceEq, reduceIte]
    rw [zcv_0, r1, zbs, zmG_v, zb_law_450, zcv_98, r2, zbs, zmG_v, zb_law_454, if_pos rfl]
  · exact ⟨w, b, c, n, e, W, F, Z, yj_c c1 f2, c2, ⟨by omega, by omega⟩, yj_y hX1 f2⟩
theorem zl_13 (h : yJt xs m N) (hN : N ≤ 900000000) (hL : L ≤ 3072) {i : Int} (h0 : 0 ≤ i) (h1 : i + 6 ≤ L) (hk : z_and (xs i.toNat).toInt 63 = 13) : ∃ m', zmE (zmD zP (D+40)) zc_law (18, [some (zr (zXB + 30)), some (zr 0), some (zr 98), some (zi i)], [], zW L m) = zmE (zmD zP (D+40)) zc_law (1101, [some (zr (zXB + 30)), some (zr 0), some (zr 98), some (zi i)], [], zW L m') ∧ yJt xs m' (N + 61) := by
  obtain ⟨w, b, c, n, e, W, F, Z, hC, hR, ⟨n1, n2⟩, hX⟩ := h
  obtain ⟨m1, r1, f1, c1⟩ := yk_122 (L := L) (m := m) (D + 32) hC ((xs (i + 1).toNat).toInt)
  have hX1 := yj_x hX f1
  obtain ⟨m2, r2, f2, c2⟩ := yr_261 (L := L) (m := m1) (D + 32) (yj_r hR f1) ((xs (i + 1).toNat).toInt)
  refine ⟨m2, ?_, ?_⟩
  · rw [zb_law_18, zlX hL, zbs, w32_of (z := (L : Int) - 6) (by omega) (by omega), if_neg (by omega), zaX hX h0 (by omega), zbs, hk]
    simp only [Int.reduceEq, reduceIte]
    rw [w32_of (z := i + 1) (by omega) (by omega), zaX hX (j := i + 1) (by omega) (by omega), zbs, zcv_0, r1, zbs, zmG_v, zb_law_468, w32_of (z := i + 1) (by omega) (by omega), zaX hX1 (j := i + 1) (by omega) (by omega), zbs, zcv_98, r2, zbs, zmG_v, zb_law_477, if_pos rfl]
  · exact ⟨w, b, c, n, e, W, F, Z, yj_c c1 f2, c2, ⟨by omega, by omega⟩, yj_y hX1 f2⟩
theorem zl_14 (h : yJt xs m N) (hN : N ≤ 900000000) (hL : L ≤ 3072) {i : Int} (h0 : 0 ≤ i) (h1 : i + 6 ≤ L) (hk : z_and (xs i.toNat).toInt 63 = 14) : ∃ m', zmE (zmD zP (D+40)) zc_law (18, [some (zr (zXB + 30)), some (zr 0), some (zr 98), some (zi i)], [], zW L m) = zmE (zmD zP (D+40)) zc_law (1101, [some (zr (zXB + 30)), some (zr 0), some (zr 98), some (zi i)], [], zW L m') ∧ yJt xs m' (N + 61) := by
  obtain ⟨w, b, c, n, e, W, F, Z, hC, hR, ⟨n1, n2⟩, hX⟩ := h
  obtain ⟨m1, r1, f1, c1⟩ := yk_125 (L := L) (m := m) (D + 31) hC ((xs (i + 1).toNat).toInt)
  have hX1 := yj_x hX f1
  obtain ⟨m2, r2, f2, c2⟩ := yr_263 (L := L) (m := m1) (D + 32) (yj_r hR f1) ((xs (i + 1).toNat).toInt)
  refine ⟨m2, ?_, ?_⟩
  · rw [zb_law_18, zlX hL, zbs, w32_of (z := (L : Int) - 6) (by omega) (by omega), if_neg (by omega), zaX hX h0 (by omega), zbs, hk]
    simp only [Int.reduceEq, reduceIte]
    rw [w32_of (z := i + 1) (by omega) (by omega), zaX hX (j := i + 1) (by omega) (by omega), zbs, zcv_0, r1, zbs, zmG_v, zb_law_491, w32_of (z := i + 1) (by omega) (by omega), zaX hX1 (j := i + 1) (by omega) (by omega), zbs, zcv_98, r2, zbs, zmG_v, zb_law_500, if_pos rfl]
  · exact ⟨w, b, c, n, e, W, F, Z, yj_c c1 f2, c2, ⟨by omega, by omega⟩, yj_y hX1 f2⟩
theorem zl_15 (h : yJt xs m N) (hN : N ≤ 900000000) (hL : L ≤ 3072) {i : Int} (h0 : 0 ≤ i) (h1 : i + 6 ≤ L) (hk : z_and (xs i.toNat).toInt 63 = 15) : ∃ m', zmE (zmD zP (D+40)) zc_law (18, [some (zr (zXB + 30)), some (zr 0), some (zr 98), some (zi i)], [], zW L m) = zmE (zmD zP (D+40)) zc_law (1101, [some (zr (zXB + 30)), some (zr 0), some (zr 98), some (zi i)], [], zW L m') ∧ yJt xs m' (N + 61) := by
  obtain ⟨w, b, c, n, e, W, F, Z, hC, hR, ⟨n1, n2⟩, hX⟩ := h
  obtain ⟨m1, r1, f1, p1, p2⟩ := yk_127 (L := L) (m := m) (D + 39) hC ((xs (i + 1).toNat).toInt) ((xs (i + 2).toNat).toInt)
  have hX1 := yj_x hX f1
  obtain ⟨m2, r2, f2, q1, q2⟩ := yr_266 (L := L) (m := m1) (D + 38) (yj_r hR f1) ((xs (i + 1).toNat).toInt) ((xs (i + 2).toNat).toInt)
  refine ⟨m2, ?_, ?_⟩
  · rw [zb_law_18, zlX hL, zbs, w32_of (z := (L : Int) - 6) (by omega) (by omega), if_neg (by omega), zaX hX h0 (by omega), zbs, hk]
    simp only [Int.reduceEq, reduceIte]
    rw [w32_of (z := i + 1) (by omega) (by omega), zaX hX (j := i + 1) (by omega) (by omega), zbs, w32_of (z := i + 2) (by omega) (by omega), zaX hX (j := i + 2) (by omega) (by omega), zbs, zcv_0, r1, zbs, zmG_v, zb_law_519, w32_of (z := i + 1) (by omega) (by omega), zaX hX1 (j := i + 1) (by omega) (by omega), zbs, w32_of (z := i + 2) (by omega) (by omega), zaX hX1 (j := i + 2) (by omega) (by omega), zbs, zcv_98, r2, zbs, zmG_v, zb_law_533, if_pos rfl]
  · by_cases g : (0 ≤ (xs (i + 1).toNat).toInt ∧ (xs (i + 1).toNat).toInt ≤ 5) ∧ 0 ≤ (xs (i + 2).toNat).toInt ∧ (xs (i + 2).toNat).toInt ≤ 9
    · exact ⟨_, _, _, _, _, _, _, _, yj_c (p2 g) f2, q2 g, ⟨by omega, by omega⟩, yj_y hX1 f2⟩
    · exact ⟨_, _, _, _, _, _, _, _, yj_c (p1 g) f2, q1 g, ⟨by omega, by omega⟩, yj_y hX1 f2⟩
theorem zl_16 (h : yJt xs m N) (hN : N ≤ 900000000) (hL : L ≤ 3072) {i : Int} (h0 : 0 ≤ i) (h1 : i + 6 ≤ L) (hk : z_and (xs i.toNat).toInt 63 = 16) : ∃ m', zmE (zmD zP (D+40)) zc_law (18, [some (zr (zXB + 30)), some (zr 0), some (zr 98), some (zi i)], [], zW L m) = zmE (zmD zP (D+40)) zc_law (1101, [some (zr (zXB + 30)), some (zr 0), some (zr 98), some (zi i)], [], zW L m') ∧ yJt xs m' (N + 61) := by
  obtain ⟨w, b, c, n, e, W, F, Z, hC, hR, ⟨n1, n2⟩, hX⟩ := h
  obtain ⟨m1, r1, f1, c1⟩ := yk_128 (L := L) (m := m) (D + 34) hC ((xs (i + 1).toNat).toInt)
  have hX1 := yj_x hX f1
  obtain ⟨m2, r2, f2, c2⟩ := yr_267 (L := L) (m := m1) (D + 32) (yj_r hR f1) ((xs (i + 1).toNat).toInt)
  refine ⟨m2, ?_, ?_⟩
  · rw [zb_law_18, zlX hL, zbs, w32_of (z := (L : Int) - 6) (by omega) (by omega), if_neg (by omega), zaX hX h0 (by omega), zbs, hk]
    simp only [Int.reduceEq, reduceIte]
    rw [w32_of (z := i + 1) (by omega) (by omega), zaX hX (j := i + 1) (by omega) (by omega), zbs, zcv_0, r1, zbs, zmG_v, zb_law_547, w32_of (z := i + 1) (by omega) (by omega), zaX hX1 (j := i + 1) (by omega) (by omega), zbs, zcv_98, r2, zbs, zmG_v, zb_law_556, if_pos rfl]
  · exact ⟨w, b, c, n, e, W, F, Z, yj_c c1 f2, c2, ⟨by omega, by omega⟩, yj_y hX1 f2⟩
theorem zl_17 (h : yJt xs m N) (hN : N ≤ 900000000) (hL : L ≤ 3072) {i : Int} (h0 : 0 ≤ i) (h1 : i + 6 ≤ L) (hk : z_and (xs i.toNat).toInt 63 = 17) : ∃ m', zmE (zmD zP (D+40)) zc_law (18, [some (zr (zXB + 30)), some (zr 0), some (zr 98), some (zi i)], [], zW L m) = zmE (zmD zP (D+40)) zc_law (1101, [some (zr (zXB + 30)), some (zr 0), some (zr 98), some (zi i)], [], zW L m') ∧ yJt xs m' (N + 61) := by
  obtain ⟨w, b, c, n, e, W, F, Z, hC, hR, ⟨n1, n2⟩, hX⟩ := h
  obtain ⟨m1, r1, f1, c1⟩ := yk_134 (L := L) (m := m) (D + 33) hC ((xs (i + 1).toNat).toInt) ((xs (i + 2).toNat).toInt)
  have hX1 := yj_x hX f1
  obtain ⟨m2, r2, f2, c2⟩ := yr_271 (L := L) (m := m1) (D + 32) (yj_r hR f1) ((xs (i + 1).toNat).toInt) ((xs (i + 2).toNat).toInt)
  refine ⟨m2, ?_, ?_⟩
  · rw [zb_law_18, zlX hL, zbs, w32_of (z := (L : Int) - 6) (by omega) (by omega), if_neg (by omega), zaX hX h0 (by omega), zbs, hk]
    simp only [Int.reduceEq, reduceIte]
    rw [w32_of (z := i + 1) (by omega) (by omega), zaX hX (j := i + 1) (by omega) (by omega), zbs, w32_of (z := i + 2) (by omega) (by omega), zaX hX (j := i + 2) (by omega) (by omega), zbs, zcv_0, r1, zbs, zmG_v, zb_law_575, w32_of (z := i + 1) (by omega) (by omega), zaX hX1 (j := i + 1) (by omega) (by omega), zbs, w32_of (z := i + 2) (by omega) (by omega), zaX hX1 (j := i + 2) (by omega) (by omega), zbs, zcv_98, r2, zbs, zmG_v, zb_law_589, if_pos rfl]
  · exact ⟨w, b, c, n, e, W, F, Z, yj_c c1 f2, c2, ⟨by omega, by omega⟩, yj_y hX1 f2⟩
theorem zl_18 (h : yJt xs m N) (hN : N ≤ 900000000) (hL : L ≤ 3072) {i : Int} (h0 : 0 ≤ i) (h1 : i + 6 ≤ L) (hk : z_and (xs i.toNat).toInt 63 = 18) : ∃ m', zmE (zmD zP (D+40)) zc_law (18, [some (zr (zXB + 30)), some (zr 0), some (zr 98), some (zi i)], [], zW L m) = zmE (zmD zP (D+40)) zc_law (1101, [some (zr (zXB + 30)), some (zr 0), some (zr 98), some (zi i)], [], zW L m') ∧ yJt xs m' (N + 61) := by
  obtain ⟨w, b, c, n, e, W, F, Z, hC, hR, ⟨n1, n2⟩, hX⟩ := h
  obtain ⟨m1, r1, f1, c1⟩ := yk_141 (L := L) (m := m) (D + 33) hC ((xs (i + 1).toNat).toInt) ((xs (i + 2).toNat).toInt) ((xs (i + 3).toNat).toInt) ((xs (i + 4).toNat).toInt)
  have hX1 := yj_x hX f1
  obtain ⟨m2, r2, f2, c2⟩ := yr_277 (L := L) (m := m1) (D + 32) (yj_r hR f1) ((xs (i + 1).toNat).toInt) ((xs (i + 2).toNat).toInt) ((xs (i + 3).toNat).toInt) ((xs (i + 4).toNat).toInt)
  refine ⟨m2, ?_, ?_⟩
  · rw [zb_law_18, zlX hL, zbs, w32_of (z := (L : Int) - 6) (by omega) (by omega), if_neg (by omega), zaX hX h0 (by omega), zbs, hk]
    simp only [Int.reduceEq, reduceIte]
    rw [w32_of (z := i + 1) (by omega) (by omega), zaX hX (j := i + 1) (by omega) (by omega), zbs, w32_of (z := i + 2) (by omega) (by omega), zaX hX (j := i + 2) (by omega) (by omega), zbs, w32_of (z := i + 3) (by omega) (by omega), zaX hX (j := i + 3) (by omega) (by omega), zbs, w32_of (z := i + 4) (by omega) (by omega), zaX hX (j := i + 4) (by omega) (by omega), zbs, zcv_0, r1, zbs, zmG_v, zb_law_618, w32_of (z := i + 1) (by omega) (by omega), zaX hX1 (j := i + 1) (by omega) (by omega), zbs, w32_of (z := i + 2) (by omega) (by omega), zaX hX1 (j := i + 2) (by omega) (by omega), zbs, w32_of (z := i + 3) (by omega) (by omega), zaX hX1 (j := i + 3) (by omega) (by omega), zbs, w32_of (z := i + 4) (by omega) (by omega), zaX hX1 (j := i + 4) (by omega) (by omega), zbs, zcv_98, r2, zbs, zmG_v, zb_law_642, if_neg (c := ((_ : Int) < _)) (Int.lt_irrefl _), if_pos rfl, if_pos rfl]
  · exact ⟨w, b, c, n, e, W, F, Z, yj_c c1 f2, c2, ⟨by omega, by omega⟩, yj_y hX1 f2⟩
theorem zl_19 (h : yJt xs m N) (hN : N ≤ 900000000) (hL : L ≤ 3072) {i : Int} (h0 : 0 ≤ i) (h1 : i + 6 ≤ L) (hk : z_and (xs i.toNat).toInt 63 = 19) : ∃ m', zmE (zmD zP (D+40)) zc_law (18, [some (zr (zXB + 30)), some (zr 0), some (zr 98), some (zi i)], [], zW L m) = zmE (zmD zP (D+40)) zc_law (1101, [some (zr (zXB + 30)), some (zr 0), some (zr 98), some (zi i)], [], zW L m') ∧ yJt xs m' (N + 61) := by
  obtain ⟨w, b, c, n, e, W, F, Z, hC, hR, ⟨n1, n2⟩, hX⟩ := h
  obtain ⟨m1, r1, f1, c1⟩ := yk_149 (L := L) (m := m) (D + 33) hC ((xs (i + 1).toNat).toInt) ((xs (i + 2).toNat).toInt) ((xs (i + 3).toNat).toInt) ((xs (i + 4).toNat).toInt)
  have hX1 := yj_x hX f1
  obtain ⟨m2, r2, f2, c2⟩ := yr_284 (L := L) (m := m1) (D + 31) (yj_r hR f1) ((xs (i + 1).toNat).toInt) ((xs (i + 2).toNat).toInt) ((xs (i + 3).toNat).toInt) ((xs (i + 4).toNat).toInt)
  refine ⟨m2, ?_, ?_⟩
  · rw [zb_law_18, zlX hL, zbs, w32_of (z := (L : Int) - 6) (by omega) (by omega), if_neg (by omega), zaX hX h0 (by omega), zbs, hk]
    simp only [Int.reduceEq, reduceIte]
    rw [w32_of (z := i + 1) (by omega) (by omega), zaX hX (j := i + 1) (by omega) (by omega), zbs, w32_of (z := i + 2) (by omega) (by omega), zaX hX (j := i + 2) (by omega) (by omega), zbs, w32_of (z := i + 3) (by omega) (by omega), zaX hX (j := i + 3) (by omega) (by omega), zbs, w32_of (z := i + 4) (by omega) (by omega), zaX hX (j := i + 4) (by omega) (by omega), zbs, zcv_0, r1, zbs, zmG_v, zb_law_672, w32_of (z := i + 1) (by omega) (by omega), zaX hX1 (j := i + 1) (by omega) (by omega), zbs, w32_of (z := i + 2) (by omega) (by omega), zaX hX1 (j := i + 2) (by omega) (by omega), zbs, w32_of (z := i + 3) (by omega) (by omega), zaX hX1 (j := i + 3) (by omega) (by omega), zbs, w32_of (z := i + 4) (by omega) (by omega), zaX hX1 (j := i + 4) (by omega) (by omega), zbs, zcv_98, r2, zbs, zmG_v, zb_law_696, if_pos rfl]
  · exact ⟨w, b, c, n, e, W, F, Z, yj_c c1 f2, c2, ⟨by omega, by omega⟩, yj_y hX1 f2⟩
theorem zl_20 (h : yJt xs m N) (hN : N ≤ 900000000) (hL : L ≤ 3072) {i : Int} (h0 : 0 ≤ i) (h1 : i + 6 ≤ L) (hk : z_and (xs i.toNat).toInt 63 = 20) : ∃ m', zmE (zmD zP (D+40)) zc_law (18, [some (zr (zXB + 30)), some (zr 0), some (zr 98), some (zi i)], [], zW L m) = zmE (zmD zP (D+40)) zc_law (1101, [some (zr (zXB + 30)), some (zr 0), some (zr 98), some (zi i)], [], zW L m') ∧ yJt xs m' (N + 61) := by
  obtain ⟨w, b, c, n, e, W, F, Z, hC, hR, ⟨n1, n2⟩, hX⟩ := h
  obtain ⟨m1, r1, f1, c1⟩ := yk_153 (L := L) (m := m) (D + 30) hC ((xs (i + 1).toNat).toInt)
  have hX1 := yj_x hX f1
  obtain ⟨m2, r2, f2, c2⟩ := yr_286 (L := L) (m := m1) (D + 30) (yj_r hR f1) ((xs (i + 1).toNat).toInt)
  refine ⟨m2, ?_, ?_⟩
  · rw [zb_law_18, zlX hL, zbs, w32_of (z := (L : Int) - 6) (by omega) (by omega), if_neg (by omega), zaX hX h0 (by omega), zbs, hk]
    simp only [Int.reduceEq, reduceIte]
    rw [w32_of (z := i + 1) (by omega) (by omega), zaX hX (j := i + 1) (by omega) (by omega), zbs, zcv_0, r1, zbs, zmG_v, zb_law_710, w32_of (z := i + 1) (by omega) (by omega), zaX hX1 (j := i + 1) (by omega) (by omega), zbs, zcv_98, r2, zbs, zmG_v, zb_law_719, if_pos rfl]
  · exact ⟨w, b, c, n, e, W, F, Z, yj_c c1 f2, c2, ⟨by omega, by omega⟩, yj_y hX1 f2⟩
theorem zl_21 (h : yJt xs m N) (hN : N ≤ 900000000) (hL : L ≤ 3072) {i : Int} (h0 : 0 ≤ i) (h1 : i + 6 ≤ L) (hk : z_and (xs i.toNat).toInt 63 = 21) : ∃ m', zmE (zmD zP (D+40)) zc_law (18, [some (zr (zXB + 30)), some (zr 0), some (zr 98), some (zi i)], [], zW L m) = zmE (zmD zP (D+40)) zc_law (1101, [some (zr (zXB + 30)), some (zr 0), some (zr 98), some (zi i)], [], zW L m') ∧ yJt xs m' (N + 61) := by
  obtain ⟨w, b, c, n, e, W, F, Z, hC, hR, ⟨n1, n2⟩, hX⟩ := h
  obtain ⟨m1, r1, f1, c1⟩ := yk_160 (L := L) (m := m) (D + 30) hC ((xs (i + 1).toNat).toInt)
  have hX1 := yj_x hX f1
  obtain ⟨m2, r2, f2, c2⟩ := yr_290 (L := L) (m := m1) (D + 31) (yj_r hR f1) ((xs (i + 1).toNat).toInt)
  refine ⟨m2, ?_, ?_⟩
  · rw [zb_law_18, zlX hL, zbs, w32_of (z := (L : Int) - 6) (by omega) (by omega), if_neg (by omega), zaX hX h0 (by omega), zbs, hk]
    simp only [Int.reduceEq, reduceIte]
    rw [w32_of (z := i + 1) (by omega) (by omega), zaX hX (j := i + 1) (by omega) (by omega), zbs, zcv_0, r1, zbs, zmG_v, zb_law_733, w32_of (z := i + 1) (by omega) (by omega), zaX hX1 (j := i + 1) (by omega) (by omega), zbs, zcv_98, r2, zbs, zmG_v, zb_law_742, if_pos rfl]
  · exact ⟨w, b, c, n, e, W, F, Z, yj_c c1 f2, c2, ⟨by omega, by omega⟩, yj_y hX1 f2⟩
theorem zl_22 (h : yJt xs m N) (hN : N ≤ 900000000) (hL : L ≤ 3072) {i : Int} (h0 : 0 ≤ i) (h1 : i + 6 ≤ L) (hk : z_and (xs i.toNat).toInt 63 = 22) : ∃ m', zmE (zmD zP (D+40)) zc_law (18, [some (zr (zXB + 30)), some (zr 0), some (zr 98), some (zi i)], [], zW L m) = zmE (zmD zP (D+40)) zc_law (1101, [some (zr (zXB + 30)), some (zr 0), some (zr 98), some (zi i)], [], zW L m') ∧ yJt xs m' (N + 61) := by
  obtain ⟨w, b, c, n, e, W, F, Z, hC, hR, ⟨n1, n2⟩, hX⟩ := h
  obtain ⟨m1, r1, f1, c1⟩ := yk_162 (L := L) (m := m) (D + 30) hC ((xs (i + 1).toNat).toInt)
  have hX1 := yj_x hX f1
  obtain ⟨m2, r2, f2, c2⟩ := yr_291 (L := L) (m := m1) (D + 30) (yj_r hR f1) ((xs (i + 1).toNat).toInt)
  refine ⟨m2, ?_, ?_⟩
  · rw [zb_law_18, zlX hL, zbs, w32_of (z := (L : Int) - 6) (by omega) (by omega), if_neg (by omega), zaX hX h0 (by omega), zbs, hk]
    simp only [Int.reduceEq, reduceIte]
    rw [w32_of (z := i + 1) (by omega) (by omega), zaX hX (j := i + 1) (by omega) (by omega), zbs, zcv_0, r1, zbs, zmG_v, zb_law_756, w32_of (z := i + 1) (by omega) (by omega), zaX hX1 (j := i + 1) (by omega) (by omega), zbs, zcv_98, r2, zbs, zmG_v, zb_law_765, if_pos rfl]
  · exact ⟨w, b, c, n, e, W, F, Z, yj_c c1 f2, c2, ⟨by omega, by omega⟩, yj_y hX1 f2⟩
theorem zl_23 (h : yJt xs m N) (hN : N ≤ 900000000) (hL : L ≤ 3072) {i : Int} (h0 : 0 ≤ i) (h1 : i + 6 ≤ L) (hk : z_and (xs i.toNat).toInt 63 = 23) : ∃ m', zmE (zmD zP (D+40)) zc_law (18, [some (zr (zXB + 30)), some (zr 0), some (zr 98), some (zi i)], [], zW L m) = zmE (zmD zP (D+40)) zc_law (1101, [some (zr (zXB + 30)), some (zr 0), some (zr 98), some (zi i)], [], zW L m') ∧ yJt xs m' (N + 61) := by
  obtain ⟨w, b, c, n, e, W, F, Z, hC, hR, ⟨n1, n2⟩, hX⟩ := h
  obtain ⟨m1, r1, f1, c1⟩ := yk_164 (L := L) (m := m) (D + 29) hC 
  have hX1 := yj_x hX f1
  obtain ⟨m2, r2, f2, c2⟩ := yr_293 (L := L) (m := m1) (D + 29) (yj_r hR f1) 
  refine ⟨m2, ?_, ?_⟩
  · rw [zb_law_18, zlX hL, zbs, w32_of (z := (L : Int) - 6) (by omega) (by omega), if_neg (by omega), zaX hX h0 (by omega), zbs, hk]
    simp only [Int.reduceEq, reduceIte]
    rw [zcv_0, r1, zbs, zmG_v, zb_law_774, zcv_98, r2, zbs, zmG_v, zb_law_778, if_pos rfl]
  · exact ⟨w, b, c, n, e, W, F, Z, yj_c c1 f2, c2, ⟨by omega, by omega⟩, yj_y hX1 f2⟩
theorem zl_24 (h : yJt xs m N) (hN : N ≤ 900000000) (hL : L ≤ 3072) {i : Int} (h0 : 0 ≤ i) (h1 : i + 6 ≤ L) (hk : z_and (xs i.toNat).toInt 63 = 24) : ∃ m', zmE (zmD zP (D+40)) zc_law (18, [some (zr (zXB + 30)), some (zr 0), some (zr 98), some (zi i)], [], zW L m) = zmE (zmD zP (D+40)) zc_law (1101, [some (zr (zXB + 30)), some (zr 0), some (zr 98), some (zi i)], [], zW L m') ∧ yJt xs m' (N + 61) := by
  obtain ⟨w, b, c, n, e, W, F, Z, hC, hR, ⟨n1, n2⟩, hX⟩ := h
  obtain ⟨m1, r1, f1, c1⟩ := yk_173 (L := L) (m := m) (D + 29) hC ((xs (i + 1).toNat).toInt) ((xs (i + 2).toNat).toInt)
  have hX1 := yj_x hX f1
  obtain ⟨m2, r2, f2, c2⟩ := yr_300 (L := L) (m := m1) (D + 29) (yj_r hR f1) ((xs (i + 1).toNat).toInt) ((xs (i + 2).toNat).toInt)
  refine ⟨m2, ?_, ?_⟩
  · rw [zb_law_18, zlX hL, zbs, w32_of (z := (L : Int) - 6) (by omega) (by omega), if_neg (by omega), zaX hX h0 (by omega), zbs, hk]
    simp only [Int.reduceEq, reduceIte]
    rw [w32_of (z := i + 1) (by omega) (by omega), zaX hX (j := i + 1) (by omega) (by omega), zbs, w32_of (z := i + 2) (by omega) (by omega), zaX hX (j := i + 2) (by omega) (by omega), zbs, zcv_0, r1, zbs, zmG_v, zb_law_797, w32_of (z := i + 1) (by omega) (by omega), zaX hX1 (j := i + 1) (by omega) (by omega), zbs, w32_of (z := i + 2) (by omega) (by omega), zaX hX1 (j := i + 2) (by omega) (by omega), zbs, zcv_98, r2, zbs, zmG_v, zb_law_811, if_pos rfl]
  · exact ⟨w, b, c, n, e, W, F, Z, yj_c c1 f2, c2, ⟨by omega, by omega⟩, yj_y hX1 f2⟩
theorem zl_25 (h : yJt xs m N) (hN : N ≤ 900000000) (hL : L ≤ 3072) {i : Int} (h0 : 0 ≤ i) (h1 : i + 6 ≤ L) (hk : z_and (xs i.toNat).toInt 63 = 25) : ∃ m', zmE (zmD zP (D+40)) zc_law (18, [some (zr (zXB + 30)), some (zr 0), some (zr 98), some (zi i)], [], zW L m) = zmE (zmD zP (D+40)) zc_law (1101, [some (zr (zXB + 30)), some (zr 0), some (zr 98), some (zi i)], [], zW L m') ∧ yJt xs m' (N + 61) := by
  obtain ⟨w, b, c, n, e, W, F, Z, hC, hR, ⟨n1, n2⟩, hX⟩ := h
  have hz := yCs_fz hC
  obtain ⟨m1, r1, f1, p1, p2⟩ := yk_176 (L := L) (m := m) (D + 37) hC ((xs (i + 1).toNat).toInt) ((xs (i + 2).toNat).toInt) ((xs (i + 3).toNat).toInt)
  have hX1 := yj_x hX f1
  obtain ⟨m2, r2, f2, q1, q2⟩ := yr_203 (L := L) (m := m1) (D + 37) (yj_r hR f1) hz ((xs (i + 1).toNat).toInt) ((xs (i + 2).toNat).toInt) ((xs (i + 3).toNat).toInt)
  refine ⟨m2, ?_, ?_⟩
  · rw [zb_law_18, zlX hL, zbs, w32_of (z := (L : Int) - 6) (by omega) (by omega), if_neg (by omega), zaX hX h0 (by omega), zbs, hk]
    simp only [Int.reduceEq, reduceIte]
    rw [w32_of (z := i + 1) (by omega) (by omega), zaX hX (j := i + 1) (by omega) (by omega), zbs, w32_of (z := i + 2) (by omega) (by omega), zaX hX (j := i + 2) (by omega) (by omega), zbs, w32_of (z := i + 3) (by omega) (by omega), zaX hX (j := i + 3) (by omega) (by omega), zbs, zcv_0, r1, zbs, zmG_v, zb_law_835, w32_of (z := i + 1) (by omega) (by omega), zaX hX1 (j := i + 1) (by omega) (by omega), zbs, w32_of (z := i + 2) (by omega) (by omega), zaX hX1 (j := i + 2) (by omega) (by omega), zbs, w32_of (z := i + 3) (by omega) (by omega), zaX hX1 (j := i + 3) (by omega) (by omega), zbs, zcv_98, r2, zbs, zmG_v, zb_law_854, if_pos rfl]
  · by_cases g : (0 ≤ (xs (i + 1).toNat).toInt ∧ (xs (i + 1).toNat).toInt < 4) ∧ (0 ≤ (xs (i + 2).toNat).toInt ∧ (xs (i + 2).toNat).toInt ≤ 2) ∧ (xs (i + 3).toNat).toInt ≤ 60
    · by_cases gk : (xs (i + 3).toNat).toInt < 0
      · exact ⟨_, _, _, _, _, _, _, _, yj_c ((p2 g).1 gk) f2, (q2 g).1 gk, ⟨by omega, by omega⟩, yj_y hX1 f2⟩
      · exact ⟨_, _, _, _, _, _, _, _, yj_c ((p2 g).2 (by omega)) f2, (q2 g).2 (by omega), ⟨by omega, by omega⟩, yj_y hX1 f2⟩
    · exact ⟨_, _, _, _, _, _, _, _, yj_c (p1 g) f2, q1 g, ⟨by omega, by omega⟩, yj_y hX1 f2⟩
theorem zl_26 (h : yJt xs m N) (hN : N ≤ 900000000) (hL : L ≤ 3072) {i : Int} (h0 : 0 ≤ i) (h1 : i + 6 ≤ L) (hk : z_and (xs i.toNat).toInt 63 = 26) : ∃ m', zmE (zmD zP (D+40)) zc_law (18, [some (zr (zXB + 30)), some (zr 0), some (zr 98), some (zi i)], [], zW L m) = zmE (zmD zP (D+40)) zc_law (1101, [some (zr (zXB + 30)), some (zr 0), some (zr 98), some (zi i)], [], zW L m') ∧ yJt xs m' (N + 61) := by
  obtain ⟨w, b, c, n, e, W, F, Z, hC, hR, ⟨n1, n2⟩, hX⟩ := h
  have hz := yCs_fz hC
  obtain ⟨m1, r1, f1, p1, p2⟩ := yk_179 (L := L) (m := m) (D + 38) hC ((xs (i + 1).toNat).toInt)
  have hX1 := yj_x hX f1
  obtain ⟨m2, r2, f2, q1, q2⟩ := yr_206 (L := L) (m := m1) (D + 37) (yj_r hR f1) hz ((xs (i + 1).toNat).toInt)
  refine ⟨m2, ?_, ?_⟩
  · rw [zb_law_18, zlX hL, zbs, w32_of (z := (L : Int) - 6) (by omega) (by omega), if_neg (by omega), zaX hX h0 (by omega), zbs, hk]
    simp only [Int.reduceEq, reduceIte]
    rw [w32_of (z := i + 1) (by omega) (by omega), zaX hX (j := i + 1) (by omega) (by omega), zbs, zcv_0, r1, zbs, zmG_v, zb_law_868, w32_of (z := i + 1) (by omega) (by omega), zaX hX1 (j := i + 1) (by omega) (by omega), zbs, zcv_98, r2, zbs, zmG_v, zb_law_877, if_pos rfl]
  · by_cases g : 0 ≤ (xs (i + 1).toNat).toInt ∧ (xs (i + 1).toNat).toInt < 4
    · by_cases gf : F ((xs (i + 1).toNat).toInt) = -1
      · exact ⟨_, _, _, _, _, _, _, _, yj_c ((p2 g).1 gf) f2, (q2 g).1 gf, ⟨by omega, by omega⟩, yj_y hX1 f2⟩
      · exact ⟨_, _, _, _, _, _, _, _, yj_c ((p2 g).2 gf) f2, (q2 g).2 gf, ⟨by omega, by omega⟩, yj_y hX1 f2⟩
    · exact ⟨_, _, _, _, _, _, _, _, yj_c (p1 g) f2, q1 g, ⟨by omega, by omega⟩, yj_y hX1 f2⟩
theorem zl_27 (h : yJt xs m N) (hN : N ≤ 900000000) (hL : L ≤ 3072) {i : Int} (h0 : 0 ≤ i) (h1 : i + 6 ≤ L) (hk : z_and (xs i.toNat).toInt 63 = 27) : ∃ m', zmE (zmD zP (D+40)) zc_law (18, [some (zr (zXB + 30)), some (zr 0), some (zr 98), some (zi i)], [], zW L m) = zmE (zmD zP (D+40)) zc_law (1101, [some (zr (zXB + 30)), some (zr 0), some (zr 98), some (zi i)], [], zW L m') ∧ yJt xs m' (N + 61) := by
  obtain ⟨w, b, c, n, e, W, F, Z, hC, hR, ⟨n1, n2⟩, hX⟩ := h
  have hz := yCs_fz hC
  obtain ⟨m1, r1, f1, p1, p2⟩ := yk_181 (L := L) (m := m) (D + 37) hC ((xs (i + 1).toNat).toInt) ((xs (i + 2).toNat).toInt) ((xs (i + 3).toNat).toInt) ((xs (i + 4).toNat).toInt)
  have hX1 := yj_x hX f1
  obtain ⟨m2, r2, f2, q1, q2⟩ := yr_207 (L := L) (m := m1) (D + 37) (yj_r hR f1) hz ((xs (i + 1).toNat).toInt) ((xs (i + 2).toNat).toInt) ((xs (i + 3).toNat).toInt) ((xs (i + 4).toNat).toInt)
  refine ⟨m2, ?_, ?_⟩
  · rw [zb_law_18, zlX hL, zbs, w32_of (z := (L : Int) - 6) (by omega) (by omega), if_neg (by omega), zaX hX h0 (by omega), zbs, hk]
    simp only [Int.reduceEq, reduceIte]
    rw [w32_of (z := i + 1) (by omega) (by omega), zaX hX (j := i + 1) (by omega) (by omega), zbs, w32_of (z := i + 2) (by omega) (by omega), zaX hX (j := i + 2) (by omega) (by omega), zbs, w32_of (z := i + 3) (by omega) (by omega), zaX hX (j := i + 3) (by omega) (by omega), zbs, w32_of (z := i + 4) (by omega) (by omega), zaX hX (j := i + 4) (by omega) (by omega), zbs, zcv_0, r1, zbs, zmG_v, zb_law_906, w32_of (z := i + 1) (by omega) (by omega), zaX hX1 (j := i + 1) (by omega) (by omega), zbs, w32_of (z := i + 2) (by omega) (by omega), zaX hX1 (j := i + 2) (by omega) (by omega), zbs, w32_of (z := i + 3) (by omega) (by omega), zaX hX1 (j := i + 3) (by omega) (by omega), zbs, w32_of (z := i + 4) (by omega) (by omega), zaX hX1 (j := i + 4) (by omega) (by omega), zbs, zcv_98, r2, zbs, zmG_v, zb_law_930, if_pos rfl]
  · by_cases g : (0 ≤ (xs (i + 1).toNat).toInt ∧ (xs (i + 1).toNat).toInt < 4) ∧ (0 ≤ (xs (i + 2).toNat).toInt ∧ (xs (i + 2).toNat).toInt ≤ 2)
    · by_cases gf : yLk (F ((xs (i + 1).toNat).toInt)) ((xs (i + 2).toNat).toInt) ((xs (i + 3).toNat).toInt) (Z ((xs (i + 1).toNat).toInt)) = 0
      · exact ⟨_, _, _, _, _, _, _, _, yj_c ((p2 g).2 gf) f2, (q2 g).2 gf, ⟨by omega, by omega⟩, yj_y hX1 f2⟩
      · exact ⟨_, _, _, _, _, _, _, _, yj_c ((p2 g).1 gf) f2, (q2 g).1 gf, ⟨by omega, by omega⟩, yj_y hX1 f2⟩
    · exact ⟨_, _, _, _, _, _, _, _, yj_c (p1 g) f2, q1 g, ⟨by omega, by omega⟩, yj_y hX1 f2⟩
theorem zl_28 (h : yJt xs m N) (hN : N ≤ 900000000) (hL : L ≤ 3072) {i : Int} (h0 : 0 ≤ i) (h1 : i + 6 ≤ L) (hk : z_and (xs i.toNat).toInt 63 = 28) : ∃ m', zmE (zmD zP (D+40)) zc_law (18, [some (zr (zXB + 30)), some (zr 0), some (zr 98), some (zi i)], [], zW L m) = zmE (zmD zP (D+40)) zc_law (1101, [some (zr (zXB + 30)), some (zr 0), some (zr 98), some (zi i)], [], zW L m') ∧ yJt xs m' (N + 61) := by
  obtain ⟨w, b, c, n, e, W, F, Z, hC, hR, ⟨n1, n2⟩, hX⟩ := h
  have hz := yCs_fz hC
  obtain ⟨m1, r1, f1, p1, p2⟩ := yk_186 (L := L) (m := m) (D + 37) hC ((xs (i + 1).toNat).toInt) ((xs (i + 2).toNat).toInt) ((xs (i + 3).toNat).toInt)
  have hX1 := yj_x hX f1
  obtain ⟨m2, r2, f2, q1, q2⟩ := yr_210 (L := L) (m := m1) (D + 37) (yj_r hR f1) hz ((xs (i + 1).toNat).toInt) ((xs (i + 2).toNat).toInt) ((xs (i + 3).toNat).toInt)
  refine ⟨m2, ?_, ?_⟩
  · rw [zb_law_18, zlX hL, zbs, w32_of (z := (L : Int) - 6) (by omega) (by omega), if_neg (by omega), zaX hX h0 (by omega), zbs, hk]
    simp only [Int.reduceEq, reduceIte]
    rw [w32_of (z := i + 1) (by omega) (by omega), zaX hX (j := i + 1) (by omega) (by omega), zbs, w32_of (z := i + 2) (by omega) (by omega), zaX hX (j := i + 2) (by omega) (by omega), zbs, w32_of (z := i + 3) (by omega) (by omega), zaX hX (j := i + 3) (by omega) (by omega), zbs, zcv_0, r1, zbs, zmG_v, zb_law_954, w32_of (z := i + 1) (by omega) (by omega), zaX hX1 (j := i + 1) (by omega) (by omega), zbs, w32_of (z := i + 2) (by omega) (by omega), zaX hX1 (j := i + 2) (by omega) (by omega), zbs, w32_of (z := i + 3) (by omega) (by omega), zaX hX1 (j := i + 3) (by omega) (by omega), zbs, zcv_98, r2, zbs, zmG_v, zb_law_973, if_pos rfl]
  · by_cases g : (0 ≤ (xs (i + 1).toNat).toInt ∧ (xs (i + 1).toNat).toInt < 4) ∧ (0 ≤ (xs (i + 2).toNat).toInt ∧ (xs (i + 2).toNat).toInt ≤ 2)
    · by_cases gf : yLk (F ((xs (i + 1).toNat).toInt)) ((xs (i + 2).toNat).toInt) ((xs (i + 3).toNat).toInt) (Z ((xs (i + 1).toNat).toInt)) = 0
      · exact ⟨_, _, _, _, _, _, _, _, yj_c ((p2 g).2 gf) f2, (q2 g).2 gf, ⟨by omega, by omega⟩, yj_y hX1 f2⟩
      · exact ⟨_, _, _, _, _, _, _, _, yj_c ((p2 g).1 gf) f2, (q2 g).1 gf, ⟨by omega, by omega⟩, yj_y hX1 f2⟩
    · exact ⟨_, _, _, _, _, _, _, _, yj_c (p1 g) f2, q1 g, ⟨by omega, by omega⟩, yj_y hX1 f2⟩
theorem zl_29 (h : yJt xs m N) (hN : N ≤ 900000000) (hL : L ≤ 3072) {i : Int} (h0 : 0 ≤ i) (h1 : i + 6 ≤ L) (hk : z_and (xs i.toNat).toInt 63 = 29) : ∃ m', zmE (zmD zP (D+40)) zc_law (18, [some (zr (zXB + 30)), some (zr 0), some (zr 98), some (zi i)], [], zW L m) = zmE (zmD zP (D+40)) zc_law (1101, [some (zr (zXB + 30)), some (zr 0), some (zr 98), some (zi i)], [], zW L m') ∧ yJt xs m' (N + 61) := by
  obtain ⟨w, b, c, n, e, W, F, Z, hC, hR, ⟨n1, n2⟩, hX⟩ := h
  have hz := yCs_fz hC
  obtain ⟨m1, r1, f1, p1, p2⟩ := yk_187 (L := L) (m := m) (D + 37) hC ((xs (i + 1).toNat).toInt) ((xs (i + 2).toNat).toInt) ((xs (i + 3).toNat).toInt) ((xs (i + 4).toNat).toInt) ((xs (i + 5).toNat).toInt)
  have hX1 := yj_x hX f1
  obtain ⟨m2, r2, f2, q1, q2⟩ := yr_211 (L := L) (m := m1) (D + 37) (yj_r hR f1) hz ((xs (i + 1).toNat).toInt) ((xs (i + 2).toNat).toInt) ((xs (i + 3).toNat).toInt) ((xs (i + 4).toNat).toInt) ((xs (i + 5).toNat).toInt) (yInt_x _) (yInt_x _) (yInt_x _)
  refine ⟨m2, ?_, ?_⟩
  · rw [zb_law_18, zlX hL, zbs, w32_of (z := (L : Int) - 6) (by omega) (by omega), if_neg (by omega), zaX hX h0 (by omega), zbs, hk]
    simp only [Int.reduceEq, reduceIte]
    rw [w32_of (z := i + 1) (by omega) (by omega), zaX hX (j := i + 1) (by omega) (by omega), zbs, w32_of (z := i + 2) (by omega) (by omega), zaX hX (j := i + 2) (by omega) (by omega), zbs, w32_of (z := i + 3) (by omega) (by omega), zaX hX (j := i + 3) (by omega) (by omega), zbs, w32_of (z := i + 4) (by omega) (by omega), zaX hX (j := i + 4) (by omega) (by omega), zbs, w32_of (z := i + 5) (by omega) (by omega), zaX hX (j := i + 5) (by omega) (by omega), zbs, zcv_0, r1, zbs, zmG_v, zb_law_1007, w32_of (z := i + 1) (by omega) (by omega), zaX hX1 (j := i + 1) (by omega) (by omega), zbs, w32_of (z := i + 2) (by omega) (by omega), zaX hX1 (j := i + 2) (by omega) (by omega), zbs, w32_of (z := i + 3) (by omega) (by omega), zaX hX1 (j := i + 3) (by omega) (by omega), zbs, w32_of (z := i + 4) (by omega) (by omega), zaX hX1 (j := i + 4) (by omega) (by omega), zbs, w32_of (z := i + 5) (by omega) (by omega), zaX hX1 (j := i + 5) (by omega) (by omega), zbs, zcv_98, r2, zbs, zmG_v, zb_law_1036, if_pos rfl]
  · by_cases g : (0 ≤ (xs (i + 1).toNat).toInt ∧ (xs (i + 1).toNat).toInt < 4) ∧ (0 ≤ (xs (i + 3).toNat).toInt ∧ (xs (i + 3).toNat).toInt < 4)
    · by_cases gf : yCk (F ((xs (i + 1).toNat).toInt)) (F ((xs (i + 3).toNat).toInt)) ((xs (i + 2).toNat).toInt) ((xs (i + 4).toNat).toInt) ((xs (i + 5).toNat).toInt) (Z ((xs (i + 1).toNat).toInt)) (Z ((xs (i + 3).toNat).toInt)) = 0
      · exact ⟨_, _, _, _, _, _, _, _, yj_c ((p2 g).2 gf) f2, (q2 g).2 gf, ⟨by omega, by omega⟩, yj_y hX1 f2⟩
      · exact ⟨_, _, _, _, _, _, _, _, yj_c ((p2 g).1 gf) f2, (q2 g).1 gf, ⟨by omega, by omega⟩, yj_y hX1 f2⟩
    · exact ⟨_, _, _, _, _, _, _, _, yj_c (p1 g) f2, q1 g, ⟨by omega, by omega⟩, yj_y hX1 f2⟩
theorem zl_30 (h : yJt xs m N) (hN : N ≤ 900000000) (hL : L ≤ 3072) {i : Int} (h0 : 0 ≤ i) (h1 : i + 6 ≤ L) (hk : z_and (xs i.toNat).toInt 63 = 30) : ∃ m', zmE (zmD zP (D+40)) zc_law (18, [some (zr (zXB + 30)), some (zr 0), some (zr 98), some (zi i)], [], zW L m) = zmE (zmD zP (D+40)) zc_law (1101, [some (zr (zXB + 30)), some (zr 0), some (zr 98), some (zi i)], [], zW L m') ∧ yJt xs m' (N + 61) := by
  obtain ⟨w, b, c, n, e, W, F, Z, hC, hR, ⟨n1, n2⟩, hX⟩ := h
  have hz := yCs_fz hC
  obtain ⟨m1, r1, f1, p1, p2⟩ := yk_189 (L := L) (m := m) (D + 34) hC ((xs (i + 1).toNat).toInt)
  have hX1 := yj_x hX f1
  obtain ⟨m2, r2, f2, q1, q2⟩ := yr_301 (L := L) (m := m1) (D + 33) (yj_r hR f1) hz ((xs (i + 1).toNat).toInt)
  refine ⟨m2, ?_, ?_⟩
  · rw [zb_law_18, zlX hL, zbs, w32_of (z := (L : Int) - 6) (by omega) (by omega), if_neg (by omega), zaX hX h0 (by omega), zbs, hk]
    simp only [Int.reduceEq, reduceIte]
    rw [w32_of (z := i + 1) (by omega) (by omega), zaX hX (j := i + 1) (by omega) (by omega), zbs, zcv_0, r1, zbs, zmG_v, zb_law_1050, w32_of (z := i + 1) (by omega) (by omega), zaX hX1 (j := i + 1) (by omega) (by omega), zbs, zcv_98, r2, zbs, zmG_v, zb_law_1059, if_pos rfl]
  · by_cases g : 0 ≤ (xs (i + 1).toNat).toInt ∧ (xs (i + 1).toNat).toInt < 4
    · by_cases gf : F ((xs (i + 1).toNat).toInt) = -1
      · exact ⟨_, _, _, _, _, _, _, _, yj_c ((p2 g).1 gf) f2, (q2 g).1 gf, ⟨by omega, by omega⟩, yj_y hX1 f2⟩
      · exact ⟨_, _, _, _, _, _, _, _, yj_c ((p2 g).2 gf) f2, (q2 g).2 gf, ⟨by omega, by omega⟩, yj_y hX1 f2⟩
    · exact ⟨_, _, _, _, _, _, _, _, yj_c (p1 g) f2, q1 g, ⟨by omega, by omega⟩, yj_y hX1 f2⟩
theorem zl_31 (h : yJt xs m N) (hN : N ≤ 900000000) (hL : L ≤ 3072) {i : Int} (h0 : 0 ≤ i) (h1 : i + 6 ≤ L) (hk : z_and (xs i.toNat).toInt 63 = 31) : ∃ m', zmE (zmD zP (D+40)) zc_law (18, [some (zr (zXB + 30)), some (zr 0), some (zr 98), some (zi i)], [], zW L m) = zmE (zmD zP (D+40)) zc_law (1101, [some (zr (zXB + 30)), some (zr 0), some (zr 98), some (zi i)], [], zW L m') ∧ yJt xs m' (N + 61) := by
  obtain ⟨w, b, c, n, e, W, F, Z, hC, hR, ⟨n1, n2⟩, hX⟩ := h
  obtain ⟨m1, r1, f1, c1⟩ := yk_190 (L := L) (m := m) (D + 31) hC ((xs (i + 1).toNat).toInt)
  have hX1 := yj_x hX f1
  obtain ⟨m2, r2, f2, c2⟩ := yr_302 (L := L) (m := m1) (D + 31) (yj_r hR f1) ((xs (i + 1).toNat).toInt)
  refine ⟨m2, ?_, ?_⟩
  · rw [zb_law_18, zlX hL, zbs, w32_of (z := (L : Int) - 6) (by omega) (by omega), if_neg (by omega), zaX hX h0 (by omega), zbs, hk]
    simp only [Int.reduceEq, reduceIte]
    rw [w32_of (z := i + 1) (by omega) (by omega), zaX hX (j := i + 1) (by omega) (by omega), zbs, zcv_0, r1, zbs, zmG_v, zb_law_1073, w32_of (z := i + 1) (by omega) (by omega), zaX hX1 (j := i + 1) (by omega) (by omega), zbs, zcv_98, r2, zbs, zmG_v, zb_law_1082, if_pos rfl]
  · exact ⟨w, b, c, n, e, W, F, Z, yj_c c1 f2, c2, ⟨by omega, by omega⟩, yj_y hX1 f2⟩
theorem zl_32 (h : yJt xs m N) (hN : N ≤ 900000000) (hL : L ≤ 3072) {i : Int} (h0 : 0 ≤ i) (h1 : i + 6 ≤ L) (hk : z_and (xs i.toNat).toInt 63 = 32) : ∃ m', zmE (zmD zP (D+40)) zc_law (18, [some (zr (zXB + 30)), some (zr 0), some (zr 98), some (zi i)], [], zW L m) = zmE (zmD zP (D+40)) zc_law (1101, [some (zr (zXB + 30)), some (zr 0), some (zr 98), some (zi i)], [], zW L m') ∧ yJt xs m' (N + 61) := by
  obtain ⟨w, b, c, n, e, W, F, Z, hC, hR, ⟨n1, n2⟩, hX⟩ := h
  obtain ⟨m1, r1, f1, c1⟩ := yk_192 (L := L) (m := m) (D + 19) hC 
  have hX1 := yj_x hX f1
  obtain ⟨m2, r2, f2, c2⟩ := yr_303 (L := L) (m := m1) (D + 19) (yj_r hR f1) 
  refine ⟨m2, ?_, ?_⟩
  · rw [zb_law_18, zlX hL, zbs, w32_of (z := (L : Int) - 6) (by omega) (by omega), if_neg (by omega), zaX hX h0 (by omega), zbs, hk]
    simp only [Int.reduceEq, reduceIte]
    rw [zcv_0, r1, zbs, zmG_v, zb_law_1091, zcv_98, r2, zbs, zmG_v, zb_law_1095, if_neg (c := ((_ : Int) < _)) (Int.lt_irrefl _), if_pos rfl, if_pos rfl]
  · exact ⟨w, b, c, n, e, W, F, Z, yj_c c1 f2, c2, ⟨by omega, by omega⟩, yj_y hX1 f2⟩
end ZR
