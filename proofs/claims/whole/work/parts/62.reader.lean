/-! BoardReader of the class -/
/-- what a byte does to a reading: it goes on, or stops -/
def yGoS (row col st : Int) (B : Int → Int) (t b : Int) (row' col' st' : Int) (B' : Int → Int) (t' : Int) : Prop := ∀ w k, yRd (b :: w) row col st B t k = yRd w row' col' st' B' t' (k + 1)
def yStS (row col st : Int) (B : Int → Int) (t b : Int) : Prop := ∀ w k, yRd (b :: w) row col st B t k = (k, 3, B, t)
section ZR
variable {L : Nat} {m : Nat → Int → Int} (D : Nat)
theorem yFr_10 {k z : Int} : yFr 8 10 m (zup m 10 k z) := fun x hx => by
  funext j
  rw [zup_ne (by omega)]
theorem yRc_10 {row col st : Int} {B : Int → Int} {t k z : Int} (h : yRc m row col st B t) : yGd2 (zup m 10 k z) 8 9 ∧ yAg (yB (zup m 10 k z 9)) B ∧ 8 * zup m 10 k z 8 1 = t := by
  obtain ⟨-, h2, h3, h4, -⟩ := h
  have e9 : zup m 10 k z 9 = m 9 := by
    funext j
    rw [zup_ne (by decide)]
  have e8 : zup m 10 k z 8 = m 8 := by
    funext j
    rw [zup_ne (by decide)]
  refine ⟨?_, by rw [e9]; exact h3, by rw [e8]; exact h4⟩
  exact yGd2_fr (lo := 10) (hi := 10) h2 (fun x hx => by
    funext j
    rw [zup_ne (by omega)]) (by decide) (by decide) (by decide)
theorem zk_26 {row col : Int} {B : Int → Int} {t : Int} (h : yRc m row col 0 B t) (b : Int) (hb : b = 47 ∨ b = 32) : (∃ m', zmD zP (D + 1) 26 [zr 10, zi b] (zW L m) = some (some (zi 1), zW L m') ∧ yFr 8 10 m m' ∧ ∃ row' col' st' B' t', yRc m' row' col' st' B' t' ∧ yGoS row col 0 B t b row' col' st' B' t') ∨ (zmD zP (D + 1) 26 [zr 10, zi b] (zW L m) = some (some (zi 0), zW L m) ∧ yStS row col 0 B t b) := by
  obtain ⟨⟨r1, r2, r3⟩, h2, h3, h4, h5, h6, h7, h8⟩ := h
  have h := (⟨⟨r1, r2, r3⟩, h2, h3, h4, h5, h6, h7, h8⟩ : yRc m row col 0 B t)
  have rd : ∀ w k, yRd (b :: w) row col 0 B t k = if col = 8 ∧ (row = 0 ↔ b = 32) then (if row = 0 then yRd w row col 1 B t (k + 1) else yRd w (row - 1) 0 0 B t (k + 1)) else (k, 3, B, t) := fun w k => by
    rw [yRd_cons, if_neg (by decide), if_neg (by decide), if_neg (by omega), if_pos hb]
  rw [zen_26, zb_26_0, zgi_10, zbs, r2, zgi_10, zbs, r1]
  by_cases g : col = 8
  · rw [if_pos g]
    have e32 : (if row = 0 then zmE (zmD zP D) zc_26 (21, [some (zr 10), some (zi b)], [zi 1], zW L m) else zmE (zmD zP D) zc_26 (21, [some (zr 10), some (zi b)], [zi 0], zW L m)) = if (row = 0 ↔ b = 32) then zmE (zmD zP D) zc_26 (32, [some (zr 10), some (zi b)], [zi 0, zi 0], zW L m) else zmE (zmD zP D) zc_26 (32, [some (zr 10), some (zi b)], [zi 0, zi 1], zW L m) := by
      by_cases g1 : row = 0 <;> by_cases g2 : b = 32 <;> simp only [g1, g2, zb_26_21, zb_26_32, Int.reduceEq, if_true, if_false, iff_true, iff_false, true_iff, false_iff, not_true_eq_false, not_false_eq_true]
    rw [e32]
    by_cases g2 : (row = 0 ↔ b = 32)
    · rw [if_pos g2, zb_26_32, if_pos rfl, zgi_10, zbs, r1]
      by_cases g3 : row = 0
      · rw [if_pos g3, zpi_10, zbs]
        refine .inl ⟨_, rfl, yFr_10, row, col, 1, B, t, ⟨⟨?_, ?_, zup_self⟩, (yRc_10 h).1, (yRc_10 h).2.1, (yRc_10 h).2.2, h5, h6, .inr (.inl rfl), fun q => absurd q (by decide)⟩, fun w k => ?_⟩
        · rw [zup_ne2 (by decide), r1]
        · rw [zup_ne2 (by decide), r2]
        · rw [rd, if_pos ⟨g, g2⟩, if_pos g3]
      · rw [if_neg g3, zbs, zpi_10, zbs, zpi_10, zbs, w32_of (by omega) (by omega)]
        have hF1 := yRc_10 (k := 0) (z := row - 1) h
        have e9 : zup (zup m 10 0 (row - 1)) 10 1 0 9 = m 9 := by
          funext j
          rw [zup_ne (by decide), zup_ne (by decide)]
        have e8 : zup (zup m 10 0 (row - 1)) 10 1 0 8 = m 8 := by
          funext j
          rw [zup_ne (by decide), zup_ne (by decide)]
        refine .inl ⟨_, rfl, yFr_tr yFr_10 yFr_10, row - 1, 0, 0, B, t, ⟨⟨?_, zup_self, ?_⟩, ?_, by rw [e9]; exact h3, by rw [e8]; exact h4, by omega, by decide, .inl rfl, fun _ s s1 s2 => h8 rfl s s1 (by omega)⟩, fun w k => ?_⟩
        · rw [zup_ne2 (by decide), zup_self]
        · rw [zup_ne2 (by decide), zup_ne2 (by decide), r3]
        · exact yGd2_fr (lo := 10) (hi := 10) hF1.1 (fun x hx => by
            funext j
            rw [zup_ne (by omega)]) (by decide) (by decide) (by decide)
        · rw [rd, if_pos ⟨g, g2⟩, if_neg g3]
    · rw [if_neg g2, zb_26_32, if_neg (by decide)]
      exact .inr ⟨rfl, fun w k => by rw [rd, if_neg (fun q => g2 q.2)]⟩
  · rw [if_neg g]
    exact .inr ⟨rfl, fun w k => by rw [rd, if_neg (fun q => g q.1)]⟩
theorem zk_49 {row col : Int} {B : Int → Int} {t : Int} (h : yRc m row col 0 B t) (b : Int) (hb : ¬ (49 ≤ b ∧ b ≤ 56)) (hb2 : ¬ (b = 47 ∨ b = 32)) : (∃ m', zmD zP (D + 2) 49 [zr 10, zi (yMan b), zr 8] (zW L m) = some (some (zi 1), zW L m') ∧ yFr 8 10 m m' ∧ ∃ row' col' st' B' t', yRc m' row' col' st' B' t' ∧ yGoS row col 0 B t b row' col' st' B' t') ∨ (zmD zP (D + 2) 49 [zr 10, zi (yMan b), zr 8] (zW L m) = some (some (zi 0), zW L m) ∧ yStS row col 0 B t b) := by
  obtain ⟨⟨r1, r2, r3⟩, h2, h3, h4, h5, h6, h7, h8⟩ := h
  have rd : ∀ w k, yRd (b :: w) row col 0 B t k = if yT (zman b ≠ 0 ∧ col < 8 ∧ ¬ ((zman b = 6 ∨ zman b = 14) ∧ yHk B (zman b))) = 0 then (k, 3, B, t) else yRd w row (col + 1) 0 (ySet B (8 * row + col) (zman b)) t (k + 1) := fun w k => by
    rw [yRd_cons, if_neg (by decide), if_neg (by decide), if_neg hb, if_neg hb2]
  obtain ⟨e1, e2, e3⟩ := yMan_enc b
  have z0 : zman b = 0 ↔ yMan b = 0 := by rw [← e1]; exact yEnc_z
  have z6 := yEnc_6 ⟨e2, e3⟩
  rw [e1] at z6
  have hk6 : yHk B 6 ↔ m 8 2 ≠ -1 := by rw [← yHk_cg h3, (yHk_yB h2.2.1).1, yKg_iff h2.2.2.2.1]
  have hk14 : yHk B 14 ↔ m 8 3 ≠ -1 := by rw [← yHk_cg h3, (yHk_yB h2.2.1).2, yKg_iff h2.2.2.2.2]
  have hkk : (yMan b = 6 ∧ m 8 2 ≠ -1 ∨ yMan b = -6 ∧ m 8 3 ≠ -1) ↔ (zman b = 6 ∨ zman b = 14) ∧ yHk B (zman b) := by
    constructor
    · rintro (⟨q1, q2⟩ | ⟨q1, q2⟩)
      · have := z6.1.mpr q1
        exact ⟨.inl this, by rw [this]; exact hk6.mpr q2⟩
      · have := z6.2.mpr q1
        exact ⟨.inr this, by rw [this]; exact hk14.mpr q2⟩
    · rintro ⟨q1 | q1, q2⟩
      · exact .inl ⟨z6.1.mp q1, hk6.mp (by rw [q1] at q2; exact q2)⟩
      · exact .inr ⟨z6.2.mp q1, hk14.mp (by rw [q1] at q2; exact q2)⟩
  rw [zen_49, zb_49_0]
  by_cases g : yMan b = 0
  · rw [if_pos g]
    exact .inr ⟨rfl, fun w k => by rw [rd, yT_neg (fun q => q.1 (z0.mpr g)), if_pos rfl]⟩
  rw [if_neg g, zgi_10, zbs, r2]
  by_cases g2 : col < 8
  · rw [if_pos g2, zcv_8, zk_50, zbs, zmG_v, zb_49_18]
    by_cases g3 : yMan b = 6 ∧ m 8 2 ≠ -1 ∨ yMan b = -6 ∧ m 8 3 ≠ -1
    · rw [yT_pos g3, if_neg (by decide)]
      exact .inr ⟨rfl, fun w k => by rw [rd, yT_neg (fun q => q.2.2 (hkk.mp g3)), if_pos rfl]⟩
    · have hs : 0 ≤ row * 8 + col ∧ row * 8 + col < 64 := by omega
      rw [yT_neg g3, if_pos rfl, zgi_10, zbs, r1, zgi_10, zbs, r2, w32_of (z := row * 8) (by omega) (by omega), w32_of (z := row * 8 + col) (by omega) (by omega), zcv_8, zk_51 D yBd_8 _ _ hs, zbs, zmG_n, zb_49_40]
      have hz : m 9 (row * 8 + col) = 0 := by
        have q := h8 rfl (row * 8 + col) hs.1 (by omega)
        rw [← h3 _ hs.1 hs.2] at q
        exact yEnc_z.mp q
      obtain ⟨p1, p2, p3, p4⟩ := yPt_good hs ⟨e2, e3⟩ h2 (by rw [hz]; decide) (fun q => by
        apply Classical.byContradiction
        intro q2
        exact g3 (.inl ⟨q, q2⟩)) (fun q => by
        apply Classical.byContradiction
        intro q2
        exact g3 (.inr ⟨q, q2⟩))
      generalize yPt m 8 9 (row * 8 + col) (yMan b) = M at *
      have q10 : M 10 = m 10 := p2 10 (by decide)
      have eM : M 10 1 = col := by rw [q10, r2]
      rw [zgi_10, zbs, eM, zpi_10, zbs, w32_of (by omega) (by omega)]
      have e9 : zup M 10 1 (col + 1) 9 = M 9 := by
        funext j
        rw [zup_ne (by decide)]
      have e8 : zup M 10 1 (col + 1) 8 = M 8 := by
        funext j
        rw [zup_ne (by decide)]
      refine .inl ⟨_, rfl, yFr_tr (yFr_wd p2 (by decide) (by decide)) yFr_10, row, col + 1, 0, ySet B (8 * row + col) (zman b), t, ⟨⟨?_, zup_self, ?_⟩, ?_, ?_, by rw [e8, p4]; exact h4, h5, by omega, .inl rfl, fun _ s s1 s2 => ?_⟩, fun w k => ?_⟩
      · rw [zup_ne2 (by decide), q10, r1]
      · rw [zup_ne2 (by decide), q10, r3]
      · exact yGd2_fr (lo := 10) (hi := 10) p1 (fun x hx => by
          funext j
          rw [zup_ne (by omega)]) (by decide) (by decide) (by decide)
      · rw [e9]
        refine yAg_tr p3 fun s s1 s2 => ?_
        unfold ySet
        rw [e1, show row * 8 + col = 8 * row + col by omega, h3 s s1 s2]
      · unfold ySet
        rw [if_neg (by omega)]
        exact h8 rfl s s1 (by omega)
      · rw [rd, yT_pos ⟨fun q => g (z0.mp q), g2, fun q => g3 (hkk.mpr q)⟩, if_neg (by decide)]
  · rw [if_neg g2]
    exact .inr ⟨rfl, fun w k => by rw [rd, yT_neg (fun q => g2 q.2.1), if_pos rfl]⟩
theorem zk_24 (hX : yTxt m) {row col st : Int} {B : Int → Int} {t : Int} (h : yRc m row col st B t) (b : Int) (hb : 0 ≤ b ∧ b < 256) : (∃ m', zmD zP (D + 6) 24 [zr 10, zi b, zr 8] (zW L m) = some (some (zi 1), zW L m') ∧ yFr 8 10 m m' ∧ ∃ row' col' st' B' t', yRc m' row' col' st' B' t' ∧ yGoS row col st B t b row' col' st' B' t') ∨ (∃ m', zmD zP (D + 6) 24 [zr 10, zi b, zr 8] (zW L m) = some (some (zi 0), zW L m') ∧ yFr 8 10 m m' ∧ yStS row col st B t b) := by
  obtain ⟨⟨r1, r2, r3⟩, h2, h3, h4, h5, h6, h7, h8⟩ := h
  have h := (⟨⟨r1, r2, r3⟩, h2, h3, h4, h5, h6, h7, h8⟩ : yRc m row col st B t)
  rw [zen_24, zb_24_0, zgi_10, zbs, r3]
  by_cases s1 : st = 1
  · have rd : ∀ w k, yRd (b :: w) row col st B t k = if b = 119 then yRd w row col 2 B 0 (k + 1) else if b = 98 then yRd w row col 2 B 8 (k + 1) else (k, 3, B, t) := fun w k => by
      rw [yRd_cons, if_pos s1]
    have e20 : (if b = 98 then zmE (zmD zP (D+5)) zc_24 (20, [some (zr 10), some (zi b), some (zr 8)], [zi 1, zr 8], zW L m) else zmE (zmD zP (D+5)) zc_24 (20, [some (zr 10), some (zi b), some (zr 8)], [zi 0, zr 8], zW L m)) = zmE (zmD zP (D+5)) zc_24 (20, [some (zr 10), some (zi b), some (zr 8)], [zi (if b = 98 then 1 else 0), zr 8], zW L m) := by split <;> rfl
    have e25 : ∀ x, zmD zP (D + 5) 25 [zr 8, zi x] (zW L m) = some (none, zW L (zup m 8 1 x)) := fun x => by
      rw [zen_25, zb_25_0, zpi_8, zbs]
    rw [if_pos s1, e20, zb_24_20, zcv_8, e25, zbs, zmG_n, zb_24_23, zpi_10, zbs]
    generalize hx : (if b = 98 then (1 : Int) else 0) = x
    have hx01 : x = 0 ∨ x = 1 := by rw [← hx]; split <;> omega
    have hF : yFr 8 10 m (zup (zup m 8 1 x) 10 2 2) := fun y hy => by
      funext j
      rw [zup_ne (by omega), zup_ne (by omega)]
    have e9 : zup (zup m 8 1 x) 10 2 2 9 = m 9 := by
      funext j
      rw [zup_ne (by decide), zup_ne (by decide)]
    have e81 : zup (zup m 8 1 x) 10 2 2 8 1 = x := by rw [zup_ne (by decide), zup_self]
    have good : ∀ t', 8 * x = t' → yRc (zup (zup m 8 1 x) 10 2 2) row col 2 B t' := fun t' ht' => by
      refine ⟨⟨?_, ?_, zup_self⟩, ⟨?_, by rw [e9]; exact h2.2.1, by rw [e81]; exact hx01, ?_, ?_⟩, by rw [e9]; exact h3, by rw [e81]; exact ht', h5, h6, .inr (.inr rfl), fun q => absurd q (by decide)⟩
      · rw [zup_ne2 (by decide), zup_ne (by decide), r1]
      · rw [zup_ne2 (by decide), zup_ne (by decide), r2]
      · exact yTab_fr h2.1 hF (by decide)
      · rw [e9, zup_ne (by decide), zup_ne2 (by decide)]
        exact h2.2.2.2.1
      · rw [e9, zup_ne (by decide), zup_ne2 (by decide)]
        exact h2.2.2.2.2
    by_cases g : b = 119
    · rw [if_pos g, zb_24_40]
      refine .inl ⟨_, rfl, hF, row, col, 2, B, 0, good 0 ?_, fun w k => by rw [rd, if_pos g]⟩
      rw [← hx, if_neg (by omega)]
      rfl
    · rw [if_neg g]
      by_cases g2 : b = 98
      · rw [if_pos g2, zb_24_40]
        refine .inl ⟨_, rfl, hF, row, col, 2, B, 8, good 8 ?_, fun w k => by rw [rd, if_neg g, if_pos g2]⟩
        rw [← hx, if_pos g2]
        rfl
      · rw [if_neg g2]
        exact .inr ⟨_, rfl, hF, fun w k => by rw [rd, if_neg g, if_neg g2]⟩
  rw [if_neg s1, zbs]
  by_cases s2 : st = 2
  · rw [if_pos s2]
    exact .inr ⟨m, rfl, yFr_rfl, fun w k => by rw [yRd_cons, if_neg s1, if_pos s2]⟩
  have s0 : st = 0 := by omega
  subst s0
  rw [if_neg s2]
  have k96 : ¬ (49 ≤ b ∧ b ≤ 56) → (∃ m', zmE (zmD zP (D+5)) zc_24 (96, [some (zr 10), some (zi b), some (zr 8)], [], zW L m) = some (some (zi 1), zW L m') ∧ yFr 8 10 m m' ∧ ∃ row' col' st' B' t', yRc m' row' col' st' B' t' ∧ yGoS row col 0 B t b row' col' st' B' t') ∨ (∃ m', zmE (zmD zP (D+5)) zc_24 (96, [some (zr 10), some (zi b), some (zr 8)], [], zW L m) = some (some (zi 0), zW L m') ∧ yFr 8 10 m m' ∧ yStS row col 0 B t b) := fun hno => by
    have k108 : (b = 47 ∨ b = 32) → (∃ m', zmE (zmD zP (D+5)) zc_24 (108, [some (zr 10), some (zi b), some (zr 8)], [], zW L m) = some (some (zi 1), zW L m') ∧ yFr 8 10 m m' ∧ ∃ row' col' st' B' t', yRc m' row' col' st' B' t' ∧ yGoS row col 0 B t b row' col' st' B' t') ∨ (∃ m', zmE (zmD zP (D+5)) zc_24 (108, [some (zr 10), some (zi b), some (zr 8)], [], zW L m) = some (some (zi 0), zW L m') ∧ yFr 8 10 m m' ∧ yStS row col 0 B t b) := fun q => by
      rcases zk_26 (L := L) (D + 4) h b q with ⟨m', e1, e2, e3⟩ | ⟨e1, e2⟩
      · rw [zb_24_108, zcv_10, e1, zbs, zmG_v, zb_24_113, if_pos (.inr rfl)]
        exact .inl ⟨m', rfl, e2, e3⟩
      · rw [zb_24_108, zcv_10, e1, zbs, zmG_v, zb_24_113, if_pos (.inl rfl)]
        exact .inr ⟨m, rfl, yFr_rfl, e2⟩
    rw [zb_24_96]
    by_cases g : b = 47
    · rw [if_pos g]
      exact k108 (.inl g)
    · rw [if_neg g]
      by_cases g2 : b = 32
      · rw [if_pos g2]
        exact k108 (.inr g2)
      · rw [if_neg g2, zk_27 D hX b hb, zbs, zmG_v, zb_24_119]
        rcases zk_49 (L := L) (D + 3) h b hno (by omega) with ⟨m', e1, e2, e3⟩ | ⟨e1, e2⟩
        · rw [zcv_10, e1, zbs, zmG_v, zb_24_123, if_pos (.inr rfl)]
          exact .inl ⟨m', rfl, e2, e3⟩
        · rw [zcv_10, e1, zbs, zmG_v, zb_24_123, if_pos (.inl rfl)]
          exact .inr ⟨m, rfl, yFr_rfl, e2⟩
  by_cases g : b < 49
  · rw [if_pos g]
    exact k96 (by omega)
  rw [if_neg g]
  by_cases g2 : 56 < b
  · rw [if_pos g2]
    exact k96 (by omega)
  have rd : ∀ w k, yRd (b :: w) row col 0 B t k = if col + (b - 48) ≤ 8 then yRd w row (col + (b - 48)) 0 B t (k + 1) else (k, 3, B, t) := fun w k => by
    rw [yRd_cons, if_neg (by decide), if_neg (by decide), if_pos ⟨by omega, by omega⟩]
  rw [if_neg g2, zgi_10, zbs, r2, w32_of (z := b - 48) (by omega) (by omega), w32_of (z := col + (b - 48)) (by omega) (by omega), zpi_10, zbs, zgi_10, zbs, zup_self]
  by_cases g3 : 8 < col + (b - 48)
  · rw [if_pos g3]
    exact .inr ⟨_, rfl, yFr_10, fun w k => by rw [rd, if_neg (by omega)]⟩
  · rw [if_neg g3]
    refine .inl ⟨_, rfl, yFr_10, row, col + (b - 48), 0, B, t, ⟨⟨?_, zup_self, ?_⟩, (yRc_10 h).1, (yRc_10 h).2.1, (yRc_10 h).2.2, h5, by omega, .inl rfl, fun _ s s1 s2 => h8 rfl s s1 (by omega)⟩, fun w k => by rw [rd, if_pos (by omega)]⟩
    · rw [zup_ne2 (by decide), r1]
    · rw [zup_ne2 (by decide), r3]
theorem zk_52 {row col st : Int} {B : Int → Int} {t : Int} (h : yRc m row col st B t) : zmD zP (D + 2) 52 [zr 10, zr 8] (zW L m) = some (some (zi (yT (st = 2 ∧ yHk B 6 ∧ yHk B 14))), zW L m) := by
  obtain ⟨⟨r1, r2, r3⟩, h2, h3, h4, h5, h6, h7, h8⟩ := h
  have hk6 : yHk B 6 ↔ m 8 2 ≠ -1 := by rw [← yHk_cg h3, (yHk_yB h2.2.1).1, yKg_iff h2.2.2.2.1]
  have hk14 : yHk B 14 ↔ m 8 3 ≠ -1 := by rw [← yHk_cg h3, (yHk_yB h2.2.1).2, yKg_iff h2.2.2.2.2]
  rw [zen_52, zb_52_0, zgi_10, zbs, r3, hk6, hk14]
  by_cases g : st = 2
  · rw [if_pos g, zcv_8, zk_50, zbs, zmG_v, zb_52_14]
    by_cases g2 : m 8 2 = -1
    · rw [yT_neg (by omega), if_pos rfl, yT_neg (fun q => q.2.1 g2)]
    · rw [yT_pos (.inl ⟨rfl, g2⟩), if_neg (by decide), zcv_8, zk_50, zbs, zmG_v, zb_52_23]
      by_cases g3 : m 8 3 = -1
      · rw [yT_neg (by omega), if_pos rfl, yT_neg (fun q => q.2.2 g3)]
      · rw [yT_pos (.inr ⟨rfl, g3⟩), if_neg (by decide), yT_pos ⟨g, g2, g3⟩]
  · rw [if_neg g, yT_neg (fun q => g q.1)]
theorem zk_19 (hX : yTxt m) (hT : yTab m) {w : List Int} (hw : yTw m 2 80 w) : ∃ m', zmD zP (D + 7) 19 [zr 10, zr 2, zr 8] (zW L m) = some (some (zi (yHome w).1), zW L m') ∧ yFr 8 10 m m' ∧ yGd2 m' 8 9 ∧ yAg (yB (m' 9)) (yHome w).2.1 ∧ 8 * m' 8 1 = (yHome w).2.2 := by
  have hto : yTo L 2 80 := ⟨⟨zh_2, (zw_gr (L := L) (m := fun _ _ => 0) (congrArg Prod.fst zh_2)).symm.trans zgr_2_0, zh_3⟩, by decide, by decide⟩
  have hl := hw.2.1
  obtain ⟨M1, a1, a2, a3, a4, a5⟩ := zk_20 (L := L) (D + 4) hT
  -- the end where the text does not hold
  have bad : ∀ (i : Nat) (M : Nat → Int → Int), yFr 8 10 m M → ∃ m', zmE (zmD zP (D+6)) zc_19 (67, [some (zr 10), some (zr 2), some (zr 8), some (zi i)], [], zW L M) = some (some (zi i), zW L m') ∧ yFr 8 10 m m' ∧ yGd2 m' 8 9 ∧ yAg (yB (m' 9)) yB0 ∧ 8 * m' 8 1 = 0 := fun i M hF => by
    obtain ⟨M2, b1, b2, b3, b4, b5⟩ := zk_20 (L := L) (m := M) (D + 4) (yTab_fr hT hF (by decide))
    have hz : ∀ s, 0 ≤ s → s < 64 → M2 9 s = 0 := fun s s1 s2 => yEnc_z.mp (b4 s s1 s2)
    have hno : ∀ v s, v ≠ 0 → 0 ≤ s → s < 64 → M2 9 s ≠ v := fun v s hv s1 s2 => by rw [hz s s1 s2]; exact hv.symm
    have k2 : M2 8 2 = -1 := by
      rcases b3.2.2.2.1 with ⟨q, -⟩ | ⟨q1, q2, q3, -⟩
      · exact q
      · exact absurd q3 (hno 6 _ (by decide) q1 q2)
    have k3 : M2 8 3 = -1 := by
      rcases b3.2.2.2.2 with ⟨q, -⟩ | ⟨q1, q2, q3, -⟩
      · exact q
      · exact absurd q3 (hno (-6) _ (by decide) q1 q2)
    obtain ⟨c1, c2, c3, c4⟩ := yPt_good (m := M2) (s := 0) (v := 6) (by decide) (by decide) b3 ⟨hno 6 0 (by decide) (by decide) (by decide), hno (-6) 0 (by decide) (by decide) (by decide)⟩ (fun _ => k2) (fun q => absurd q (by decide))
    have hz63 : yPt M2 8 9 0 6 9 63 = 0 := by
      have q := c3 63 (by decide) (by decide)
      unfold ySet at q
      rw [if_neg (by decide), b4 63 (by decide) (by decide)] at q
      exact yEnc_z.mp q
    have k3' : yPt M2 8 9 0 6 8 3 = -1 := by
      unfold yPt
      rw [if_pos rfl, zup_ne2 (by decide), zup_ne (by decide), k3]
    obtain ⟨d1, d2, d3, d4⟩ := yPt_good (m := yPt M2 8 9 0 6) (s := 63) (v := -6) (by decide) (by decide) c1 (by rw [hz63]; decide) (fun q => absurd q (by decide)) (fun _ => k3')
    rw [zb_19_67, zcv_8, b1, zbs, zmG_n, zb_19_71, zcv_8, zk_51 (D + 5) yBd_8 0 6 (by decide), zbs, zmG_n, zb_19_78, zcv_8, zk_51 (D + 5) yBd_8 63 (-6) (by decide), zbs, zmG_n, zb_19_86]
    refine ⟨_, rfl, yFr_tr hF (yFr_tr (yFr_wd b2 (by decide) (by decide)) (yFr_tr (yFr_wd c2 (by decide) (by decide)) (yFr_wd d2 (by decide) (by decide)))), d1, yAg_tr d3 fun s s1 s2 => ?_, by rw [d4, c4, b5]; rfl⟩
    unfold ySet
    rw [c3 s s1 s2]
    unfold ySet yB0
    rw [b4 s s1 s2]
    by_cases e1 : s = 63
    · rw [if_pos e1, if_neg (by omega), if_pos e1]
      rfl
    · rw [if_neg e1]
      by_cases e2 : s = 0
      · rw [if_pos e2, if_pos e2]
        rfl
      · rw [if_neg e2, if_neg e2, if_neg e1]
  have hHome : ∀ r, yRd w 7 0 0 (fun _ => 0) 0 0 = r → yHome w = if yT (yGood r) = 0 then (r.1, yB0, 0) else (-1, r.2.2.1, r.2.2.2) := fun r hr => by
    unfold yHome
    rw [hr]
  suffices go : ∀ n i : Nat, i + n = w.length → ∀ M row col st B t, yFr 8 10 m M → yRc M row col st B t → yRd w 7 0 0 (fun _ => 0) 0 0 = yRd (w.drop i) row col st B t i → ∃ m', zmE (zmD zP (D+6)) zc_19 (22, [some (zr 10), some (zr 2), some (zr 8), some (zi i)], [], zW L M) = some (some (zi (yHome w).1), zW L m') ∧ yFr 8 10 m m' ∧ yGd2 m' 8 9 ∧ yAg (yB (m' 9)) (yHome w).2.1 ∧ 8 * m' 8 1 = (yHome w).2.2 by
    have hF1 : yFr 8 10 m M1 := yFr_wd a2 (by decide) (by decide)
    rw [zen_19, zb_19_0, zcv_8, a1, zbs, zmG_n, zb_19_4, zpi_10, zbs, zpi_10, zbs, zpi_10, zbs]
    have e9 : zup (zup (zup M1 10 0 7) 10 1 0) 10 2 0 9 = M1 9 := by
      funext j
      rw [zup_ne (by decide), zup_ne (by decide), zup_ne (by decide)]
    have e8 : zup (zup (zup M1 10 0 7) 10 1 0) 10 2 0 8 = M1 8 := by
      funext j
      rw [zup_ne (by decide), zup_ne (by decide), zup_ne (by decide)]
    have e := go w.length 0 (by omega) (zup (zup (zup M1 10 0 7) 10 1 0) 10 2 0) 7 0 0 (fun _ => 0) 0 (yFr_tr hF1 (yFr_tr yFr_10 (yFr_tr yFr_10 yFr_10))) ⟨⟨?_, ?_, zup_self⟩, ?_, by rw [e9]; exact a4, by rw [e8, a5]; rfl, by decide, by decide, .inl rfl, fun _ _ _ _ => rfl⟩ rfl
    · exact e
    · rw [zup_ne2 (by decide), zup_ne2 (by decide), zup_self]
    · rw [zup_ne2 (by decide), zup_self]
    · exact yGd2_fr (lo := 10) (hi := 10) a3 (fun x hx => by
        funext j
        rw [zup_ne (by omega), zup_ne (by omega), zup_ne (by omega)]) (by decide) (by decide) (by decide)
  intro n
  induction n with
  | zero =>
    intro i hi M row col st B t hF hR hr
    have hwM := yTw_fr hw hF (by decide)
    rw [List.drop_eq_nil_of_le (by omega), yRd_nil] at hr
    have hh := hHome _ hr
    have hg : yGood ((i : Int), st, B, t) ↔ (st = 2 ∧ yHk B 6 ∧ yHk B 14) := Iff.rfl
    rw [yT_c hg] at hh
    rw [zb_19_22, yoc hto, zk_22 (D + 5) hto hwM, zbs, zmG_v, zb_19_27, if_neg (by omega), zb_19_49, yoc hto, zk_22 (D + 5) hto hwM, zbs, zmG_v, zb_19_54, if_pos (by omega), zcv_10, zk_52 (D + 4) hR, zbs, zmG_v, zb_19_62, hh]
    by_cases g : yT (st = 2 ∧ yHk B 6 ∧ yHk B 14) = 0
    · rw [if_pos g, if_pos g]
      exact bad i M hF
    · rw [if_neg g, if_neg g]
      exact ⟨M, rfl, hF, hR.2.1, hR.2.2.1, hR.2.2.2.1⟩
  | succ n ih =>
    intro i hi M row col st B t hF hR hr
    have hwM := yTw_fr hw hF (by decide)
    have hi2 : i < w.length := by omega
    have hb := (hw.2.2 i hi2).2
    rw [ydrop hi2] at hr
    rw [zb_19_22, yoc hto, zk_22 (D + 5) hto hwM, zbs, zmG_v, zb_19_27, if_pos (by omega), yoc hto, zk_23 (D + 5) hto hwM, zbs, zmG_v, zb_19_36, yGet_at hi2]
    rcases zk_24 (L := L) (m := M) D (yTxt_fr hX hF (by decide)) hR _ hb with ⟨m', e1, e2, row', col', st', B', t', e3, e4⟩ | ⟨m', e1, e2, e3⟩
    · rw [zcv_10, e1, zbs, zmG_v, zb_19_40, if_neg (by decide), w32_of (by omega) (by omega)]
      have e := ih (i + 1) (by omega) m' row' col' st' B' t' (yFr_tr hF e2) e3 (by rw [hr, e4 _ _, Int.natCast_succ])
      rw [Int.natCast_succ] at e
      exact e
    · have hh := hHome _ (hr.trans (e3 _ _))
      have hg : ¬ yGood ((i : Int), 3, B, t) := fun q => absurd (show (3 : Int) = 2 from q.1) (by decide)
      rw [yT_neg hg, if_pos rfl] at hh
      have hwM' := yTw_fr hw (yFr_tr hF e2) (by decide)
      rw [zcv_10, e1, zbs, zmG_v, zb_19_40, if_pos rfl, zb_19_49, yoc hto, zk_22 (D + 5) hto hwM', zbs, zmG_v, zb_19_54, if_neg (by omega), hh]
      exact bad i m' (yFr_tr hF e2)
end ZR
