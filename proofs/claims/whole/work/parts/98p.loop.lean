/-! the law's loop, and the end -/
section ZR
variable {L : Nat} {xs : Nat → Int32} (D : Nat)
theorem zl_step {m : Nat → Int → Int} {N : Int} (h : yJt xs m N) (hN : 0 ≤ N ∧ N ≤ 900000000) (hL : L ≤ 3072) {i : Int} (h0 : 0 ≤ i) (h1 : i + 6 ≤ L) : ∃ m', zmE (zmD zP (D+40)) zc_law (18, [some (zr (zXB + 30)), some (zr 0), some (zr 98), some (zi i)], [], zW L m) = zmE (zmD zP (D+40)) zc_law (18, [some (zr (zXB + 30)), some (zr 0), some (zr 98), some (zi (i + 6))], [], zW L m') ∧ yJt xs m' (N + 61) := by
  have fin : (∃ m', zmE (zmD zP (D+40)) zc_law (18, [some (zr (zXB + 30)), some (zr 0), some (zr 98), some (zi i)], [], zW L m) = zmE (zmD zP (D+40)) zc_law (1101, [some (zr (zXB + 30)), some (zr 0), some (zr 98), some (zi i)], [], zW L m') ∧ yJt xs m' (N + 61)) → ∃ m', zmE (zmD zP (D+40)) zc_law (18, [some (zr (zXB + 30)), some (zr 0), some (zr 98), some (zi i)], [], zW L m) = zmE (zmD zP (D+40)) zc_law (18, [some (zr (zXB + 30)), some (zr 0), some (zr 98), some (zi (i + 6))], [], zW L m') ∧ yJt xs m' (N + 61) := fun ⟨m', r, j⟩ => ⟨m', by rw [r, zb_law_1101, w32_of (by omega) (by omega)], j⟩
  apply fin
  by_cases g0 : z_and (xs i.toNat).toInt 63 = 0
  · exact zl_0 (L := L) D h hN.2 hL h0 h1 g0
  by_cases g1 : z_and (xs i.toNat).toInt 63 = 1
  · exact zl_1 (L := L) D h hN.2 hL h0 h1 g1
  by_cases g2 : z_and (xs i.toNat).toInt 63 = 2
  · exact zl_2 (L := L) D h hN.2 hL h0 h1 g2
  by_cases g3 : z_and (xs i.toNat).toInt 63 = 3
  · exact zl_3 (L := L) D h hN.2 hL h0 h1 g3
  by_cases g4 : z_and (xs i.toNat).toInt 63 = 4
  · exact zl_4 (L := L) D h hN.2 hL h0 h1 g4
  by_cases g5 : z_and (xs i.toNat).toInt 63 = 5
  · exact zl_5 (L := L) D h hN.2 hL h0 h1 g5
  by_cases g6 : z_and (xs i.toNat).toInt 63 = 6
  · exact zl_6 (L := L) D h hN.2 hL h0 h1 g6
  by_cases g7 : z_and (xs i.toNat).toInt 63 = 7
  · exact zl_7 (L := L) D h hN.2 hL h0 h1 g7
  by_cases g8 : z_and (xs i.toNat).toInt 63 = 8
  · exact zl_8 (L := L) D h hN.2 hL h0 h1 g8
  by_cases g9 : z_and (xs i.toNat).toInt 63 = 9
  · exact zl_9 (L := L) D h hN.2 hL h0 h1 g9
  by_cases g10 : z_and (xs i.toNat).toInt 63 = 10
  · exact zl_10 (L := L) D h hN.2 hL h0 h1 g10
  by_cases g11 : z_and (xs i.toNat).toInt 63 = 11
  · exact zl_11 (L := L) D h hN.2 hL h0 h1 g11
  by_cases g12 : z_and (xs i.toNat).toInt 63 = 12
  · exact zl_12 (L := L) D h hN.2 hL h0 h1 g12
  by_cases g13 : z_and (xs i.toNat).toInt 63 = 13
  · exact zl_13 (L := L) D h hN.2 hL h0 h1 g13
  by_cases g14 : z_and (xs i.toNat).toInt 63 = 14
  · exact zl_14 (L := L) D h hN.2 hL h0 h1 g14
  by_cases g15 : z_and (xs i.toNat).toInt 63 = 15
  · exact zl_15 (L := L) D h hN.2 hL h0 h1 g15
  by_cases g16 : z_and (xs i.toNat).toInt 63 = 16
  · exact zl_16 (L := L) D h hN.2 hL h0 h1 g16
  by_cases g17 : z_and (xs i.toNat).toInt 63 = 17
  · exact zl_17 (L := L) D h hN.2 hL h0 h1 g17
  by_cases g18 : z_and (xs i.toNat).toInt 63 = 18
  · exact zl_18 (L := L) D h hN.2 hL h0 h1 g18
  by_cases g19 : z_and (xs i.toNat).toInt 63 = 19
  · exact zl_19 (L := L) D h hN.2 hL h0 h1 g19
  by_cases g20 : z_and (xs i.toNat).toInt 63 = 20
  · exact zl_20 (L := L) D h hN.2 hL h0 h1 g20
  by_cases g21 : z_and (xs i.toNat).toInt 63 = 21
  · exact zl_21 (L := L) D h hN.2 hL h0 h1 g21
  by_cases g22 : z_and (xs i.toNat).toInt 63 = 22
  · exact zl_22 (L := L) D h hN.2 hL h0 h1 g22
  by_cases g23 : z_and (xs i.toNat).toInt 63 = 23
  · exact zl_23 (L := L) D h hN.2 hL h0 h1 g23
  by_cases g24 : z_and (xs i.toNat).toInt 63 = 24
  · exact zl_24 (L := L) D h hN.2 hL h0 h1 g24
  by_cases g25 : z_and (xs i.toNat).toInt 63 = 25
  · exact zl_25 (L := L) D h hN.2 hL h0 h1 g25
  by_cases g26 : z_and (xs i.toNat).toInt 63 = 26
  · exact zl_26 (L := L) D h hN.2 hL h0 h1 g26
  by_cases g27 : z_and (xs i.toNat).toInt 63 = 27
  · exact zl_27 (L := L) D h hN.2 hL h0 h1 g27
  by_cases g28 : z_and (xs i.toNat).toInt 63 = 28
  · exact zl_28 (L := L) D h hN.2 hL h0 h1 g28
  by_cases g29 : z_and (xs i.toNat).toInt 63 = 29
  · exact zl_29 (L := L) D h hN.2 hL h0 h1 g29
  by_cases g30 : z_and (xs i.toNat).toInt 63 = 30
  · exact zl_30 (L := L) D h hN.2 hL h0 h1 g30
  by_cases g31 : z_and (xs i.toNat).toInt 63 = 31
  · exact zl_31 (L := L) D h hN.2 hL h0 h1 g31
  by_cases g32 : z_and (xs i.toNat).toInt 63 = 32
  · exact zl_32 (L := L) D h hN.2 hL h0 h1 g32
  obtain ⟨w, b, c, n, e, W, F, Z, hC, hR, ⟨n1, n2⟩, hX⟩ := h
  refine ⟨m, ?_, w, b, c, n, e, W, F, Z, hC, hR, ⟨n1, by omega⟩, hX⟩
  rw [zb_law_18, zlX hL, zbs, w32_of (z := (L : Int) - 6) (by omega) (by omega), if_neg (by omega), zaX hX h0 (by omega), zbs, if_neg g0, if_neg g1, if_neg g2, if_neg g3, if_neg g4, if_neg g5, if_neg g6, if_neg g7, if_neg g8, if_neg g9, if_neg g10, if_neg g11, if_neg g12, if_neg g13, if_neg g14, if_neg g15, if_neg g16, if_neg g17, if_neg g18, if_neg g19, if_neg g20, if_neg g21, if_neg g22, if_neg g23, if_neg g24, if_neg g25, if_neg g26, if_neg g27, if_neg g28, if_neg g29, if_neg g30, if_neg g31, if_neg g32]
theorem zl_loop (hL : L ≤ 3072) : ∀ (k : Nat) (i : Int) (m : Nat → Int → Int) (N : Int), 0 ≤ i → (L : Int) - i < 6 * k + 6 → yJt xs m N → 0 ≤ N → N + 61 * k ≤ 900000000 → ∃ m', zmE (zmD zP (D+40)) zc_law (18, [some (zr (zXB + 30)), some (zr 0), some (zr 98), some (zi i)], [], zW L m) = some (some (zi 1), zW L m') := fun k => by
  induction k with
  | zero =>
    intro i m N h0 hk hJ hN hb
    refine ⟨m, ?_⟩
    rw [zb_law_18, zlX hL, zbs, w32_of (z := (L : Int) - 6) (by omega) (by omega), if_pos (by omega)]
  | succ k ih =>
    intro i m N h0 hk hJ hN hb
    by_cases g : (L : Int) - 6 < i
    · refine ⟨m, ?_⟩
      rw [zb_law_18, zlX hL, zbs, w32_of (z := (L : Int) - 6) (by omega) (by omega), if_pos g]
    · obtain ⟨m1, r1, j1⟩ := zl_step (L := L) D hJ ⟨hN, by omega⟩ hL h0 (by omega)
      obtain ⟨m2, r2⟩ := ih (i + 6) m1 (N + 61) (by omega) (by omega) j1 (by omega) (by omega)
      exact ⟨m2, r1.trans r2⟩
theorem zl_end (hL : L ≤ 3072) : ∃ (d : Nat) (w' : zmW), d ≤ 1000 ∧ zmE (zmD zP d) zc_law (0, [some (zr (zXB + 30)), none, none, none], [], zE0 L xs) = some (some (zi 1), w') ∧ w'.1 ≤ 600000 ∧ w'.2.1 ≤ 7302250 := by
  obtain ⟨m', r⟩ := zl_loop (L := L) (xs := xs) 0 hL 512 0 (zM0 xs) 0 (by decide) (by omega) yJt_0 (by decide) (by decide)
  refine ⟨35 + 5, zW L m', by decide, ?_, (by decide : 118 ≤ 600000), (by decide : 31163 ≤ 7302250)⟩
  have e0 : zE0 L xs = zPW L xs 0 0 zqS_0 zqR_0 zqI_0 := rfl
  rw [e0, zct_top L xs 35, zPW_zW]
  exact r
end ZR
