/-! targets of the class are what the reference's men may go to -/
theorem yEnc_o {v t : Int} (ht : t = 0 ∨ t = 1) (hv : -6 ≤ v ∧ v ≤ 6) : zcol (yEnc v) = 8 * t ↔ 0 < v * (if t = 0 then 1 else -1) := by
  unfold zcol yEnc
  rcases ht with e | e <;> subst e
  · rw [if_pos rfl]
    repeat (split)
    all_goals omega
  · rw [show (if (1 : Int) = 0 then (1 : Int) else -1) = -1 from rfl]
    repeat (split)
    all_goals omega
theorem yEnc_n {v : Int} : zcol (yEnc v) = -1 ↔ v = 0 := by
  unfold zcol yEnc
  repeat (split)
  all_goals omega
theorem tS_opp {d : Int} (h : 0 ≤ d ∧ d < 8) : tSC ((d + 4) % 8) = -tSC d ∧ tSR ((d + 4) % 8) = -tSR d ∧ (0 ≤ (d + 4) % 8 ∧ (d + 4) % 8 < 8) ∧ ((d + 4) % 8) % 2 = d % 2 ∧ ((d + 4) % 8 + 4) % 8 = d := by
  rcases yd8 h with e | e | e | e | e | e | e | e <;> subst e <;> decide
theorem yLn_opp {s q d k : Int} (h : 0 ≤ d ∧ d < 8) : yLn s q d k ↔ yLn q s ((d + 4) % 8) k := by
  obtain ⟨h1, h2, -⟩ := tS_opp h
  unfold yLn
  rw [h1, h2, Int.mul_neg, Int.mul_neg]
  omega
theorem ySq_at {f d j : Int} (h : 0 ≤ d ∧ d < 8) : ySq (f % 8) (f / 8) d j = f + j * (8 * tSR d + tSC d) := by
  unfold ySq
  have := tS_in h
  have e1 : tSC d = -1 ∨ tSC d = 0 ∨ tSC d = 1 := by omega
  have e2 : tSR d = -1 ∨ tSR d = 0 ∨ tSR d = 1 := by omega
  rcases e1 with e1 | e1 | e1 <;> rcases e2 with e2 | e2 | e2 <;> rw [e1, e2] <;> omega
/-- what a line of steps says in the reference's words -/
theorem yDir {f s d k : Int} (hf : 0 ≤ f ∧ f < 64) (hs : 0 ≤ s ∧ s < 64) (hd : 0 ≤ d ∧ d < 8) (hk : 0 < k) (h : yLn s f d k) : (zNs f s : Int) = k ∧ zSt f s = 8 * tSR d + tSC d ∧ zAc f s = k * zamt (tSC d) ∧ zamt (zAl f s) = k * zamt (tSR d) ∧ (zAl f s = 0 ↔ tSR d = 0) ∧ f ≠ s ∧ s = ySq (f % 8) (f / 8) d k := by
  obtain ⟨o1, o2, o3, -, -⟩ := tS_opp hd
  obtain ⟨g1, g2, g3, g4, g5, -⟩ := yGeo hf hs o3 hk ((yLn_opp hd).mp h)
  rw [o1, o2] at g2
  rw [o1] at g3
  rw [o2] at g4
  have t := tS_in hd
  have e1 : tSC d = -1 ∨ tSC d = 0 ∨ tSC d = 1 := by omega
  have e2 : tSR d = -1 ∨ tSR d = 0 ∨ tSR d = 1 := by omega
  have n1 : zamt (-tSC d) = zamt (tSC d) := by rcases e1 with q | q | q <;> rw [q] <;> rfl
  refine ⟨g1, by omega, by rw [g3, n1], ?_, ?_, g5, ?_⟩
  · rw [g4, Int.mul_neg, Int.neg_neg, ← zamt_mul (by omega) e2]
    unfold zamt
    split <;> split <;> omega
  · rw [g4, Int.mul_neg, Int.neg_neg, Int.mul_eq_zero]
    omega
  · obtain ⟨h1, h2⟩ := h
    unfold ySq
    omega
theorem yLineTo_fwd {b : Int → Int} {f own d n s : Int} (hf : 0 ≤ f ∧ f < 64) (hd : 0 ≤ d ∧ d < 8) (h : yLineTo b (f % 8) (f / 8) own d n s) : (0 ≤ s ∧ s < 64) ∧ b s * own ≤ 0 ∧ yFreeTo (yB b) f s ∧ ∃ k, 1 ≤ k ∧ k ≤ n ∧ yLn s f d k := by
  obtain ⟨k, h1, h2, h3, h4, h5, h6⟩ := h
  obtain ⟨a1, a2⟩ := yLn_of h3
  rw [← h4] at a1 a2
  refine ⟨a1, h5, fun j hj1 hj2 => ?_, k, h1, h2, a2⟩
  obtain ⟨g1, g2, -⟩ := yDir hf a1 hd (by omega) a2
  rw [g2, ← ySq_at hd]
  exact yEnc_z.mpr (h6 j (by omega) (by omega)).2
theorem yLineTo_bwd {b : Int → Int} {f own d n s k : Int} (hf : 0 ≤ f ∧ f < 64) (hd : 0 ≤ d ∧ d < 8) (hs : 0 ≤ s ∧ s < 64) (hb : b s * own ≤ 0) (h1 : 1 ≤ k) (h2 : k ≤ n) (h : yLn s f d k) (hfr : 1 < k → yFreeTo (yB b) f s) : yLineTo b (f % 8) (f / 8) own d n s := by
  obtain ⟨g1, g2, -, -, -, -, g7⟩ := yDir hf hs hd (by omega) h
  have hin := yIn_of hs h
  refine ⟨k, h1, h2, hin, g7, hb, fun j hj1 hj2 => ⟨yIn_mid hf hd ⟨by omega, by omega⟩ hin, ?_⟩⟩
  have q := hfr (by omega) j.toNat (by omega) (by omega)
  rw [g2, show ((j.toNat : Nat) : Int) = j by omega, ← ySq_at hd] at q
  exact yEnc_z.mp q
theorem yPawn_iff {b : Int → Int} {t f s : Int} (hB : zOkC b) (ht : t = 0 ∨ t = 1) (hf : 0 ≤ f ∧ f < 64) (hs : 0 ≤ s ∧ s < 64) (hk : b f * (if t = 0 then 1 else -1) = 1) : yPawnTo b f (if t = 0 then 1 else -1) s ↔ yMay (yB b) (8 * t) f s := by
  have c1 := yEnc_o ht (hB f hf.1 hf.2)
  have c2 := yEnc_o ht (hB s hs.1 hs.2)
  have c3 := yEnc_n (v := b s)
  have hbs := hB s hs.1 hs.2
  have b1 : ∀ x, (yB b x = 0) ↔ b x = 0 := fun x => yEnc_z
  have b2 : yB b f = if t = 0 then 1 else 9 := by
    unfold yB yEnc
    rcases ht with q | q <;> subst q
    · rw [if_pos rfl] at hk ⊢
      rw [if_neg (by omega)]
      omega
    · rw [show (if (1 : Int) = 0 then (1 : Int) else -1) = -1 from rfl] at hk
      rw [show (if (1 : Int) = 0 then (1 : Int) else 9) = 9 from rfl, if_pos (by omega)]
      omega
  have e1 : zcol (yB b f) = zcol (yEnc (b f)) := rfl
  have e2 : zcol (yB b s) = zcol (yEnc (b s)) := rfl
  have hr : yB b f % 8 = 1 := by rw [b2]; split <;> decide
  unfold yMay yGoes yReach yPawnTo
  rw [e1, e2, c1, b1, b1, hr]
  rcases ht with q | q <;> subst q
  · rw [if_pos rfl] at *
    rw [b2, show (if (0 : Int) < 1 then (2 : Int) else 5) = 2 from rfl, show (if (8 : Int) < 1 then f - s else s - f) = s - f from rfl, show (if (8 : Int) < 1 then 7 - f / 8 else f / 8) = f / 8 from rfl, show (if (8 : Int) < 1 then (-1 : Int) else 1) = 1 from rfl]
    by_cases g : b s = 0
    · have g2 := c3.mpr g
      rw [if_pos ⟨rfl, g2⟩]
      have e3 : s = f + 16 * 1 → (f + s) / 2 = f + 8 * 1 := fun q => by omega
      constructor
      · rintro ⟨h1, h2⟩
        refine ⟨by omega, by omega, ?_⟩
        rcases h2 with ⟨h2, -⟩ | ⟨h2, h3, h4, h5⟩ | ⟨-, -, h2⟩ | ⟨-, -, h2⟩
        · exact .inl ⟨by omega, g⟩
        · exact .inr ⟨by omega, by omega, g, by rw [e3 h2]; exact h4⟩
        · rw [g] at h2
          omega
        · rw [g] at h2
          omega
      · rintro ⟨-, -, h2⟩
        rcases h2 with ⟨h2, -⟩ | ⟨h2, h3, h4, h5⟩
        · exact ⟨by omega, .inl ⟨by omega, g⟩⟩
        · rw [e3 (by omega)] at h5
          exact ⟨by omega, .inr (.inl ⟨by omega, by omega, h5, g⟩)⟩
    · rw [if_neg (fun q => g (c3.mp q.2))]
      unfold zAc zAl zamt
      constructor
      · rintro ⟨h1, h2⟩
        rcases h2 with ⟨h2, h3⟩ | ⟨h2, h3, h4, h5⟩ | ⟨h2, h3, h4⟩ | ⟨h2, h3, h4⟩
        · exact absurd h3 g
        · exact absurd h5 g
        · refine ⟨by omega, by omega, .inl ⟨rfl, ?_, by omega⟩⟩
          split <;> omega
        · refine ⟨by omega, by omega, .inl ⟨rfl, ?_, by omega⟩⟩
          split <;> omega
      · rintro ⟨-, h2, h3⟩
        rcases h3 with ⟨-, h3, h4⟩ | ⟨h3, -⟩ | ⟨h3, -⟩ | ⟨h3, -⟩ | ⟨h3, -⟩ | ⟨h3, -⟩
        · refine ⟨by omega, .inr (.inr ?_)⟩
          split at h3
          · exact .inl ⟨by omega, by omega, by omega⟩
          · exact .inr ⟨by omega, by omega, by omega⟩
        all_goals exact absurd h3 (by decide)
  · rw [show (if (1 : Int) = 0 then (1 : Int) else -1) = -1 from rfl] at *
    rw [show (if (1 : Int) = 0 then (1 : Int) else 9) = 9 from rfl] at b2
    rw [b2, show (if (0 : Int) < -1 then (2 : Int) else 5) = 5 from rfl, show (if (8 : Int) < 9 then f - s else s - f) = f - s from rfl, show (if (8 : Int) < 9 then 7 - f / 8 else f / 8) = 7 - f / 8 from rfl, show (if (8 : Int) < 9 then (-1 : Int) else 1) = -1 from rfl]
    by_cases g : b s = 0
    · have g2 := c3.mpr g
      rw [if_pos ⟨rfl, g2⟩]
      have e3 : s = f + 16 * -1 → (f + s) / 2 = f + 8 * -1 := fun q => by omega
      constructor
      · rintro ⟨h1, h2⟩
        refine ⟨by omega, by omega, ?_⟩
        rcases h2 with ⟨h2, -⟩ | ⟨h2, h3, h4, h5⟩ | ⟨-, -, h2⟩ | ⟨-, -, h2⟩
        · exact .inl ⟨by omega, g⟩
        · exact .inr ⟨by omega, by omega, g, by rw [e3 h2]; exact h4⟩
        · rw [g] at h2
          omega
        · rw [g] at h2
          omega
      · rintro ⟨-, -, h2⟩
        rcases h2 with ⟨h2, -⟩ | ⟨h2, h3, h4, h5⟩
        · exact ⟨by omega, .inl ⟨by omega, g⟩⟩
        · rw [e3 (by omega)] at h5
          exact ⟨by omega, .inr (.inl ⟨by omega, by omega, h5, g⟩)⟩
    · rw [if_neg (fun q => g (c3.mp q.2))]
      unfold zAc zAl zamt
      constructor
      · rintro ⟨h1, h2⟩
        rcases h2 with ⟨h2, h3⟩ | ⟨h2, h3, h4, h5⟩ | ⟨h2, h3, h4⟩ | ⟨h2, h3, h4⟩
        · exact absurd h3 g
        · exact absurd h5 g
        · refine ⟨by omega, by omega, .inl ⟨rfl, ?_, by omega⟩⟩
          split <;> omega
        · refine ⟨by omega, by omega, .inl ⟨rfl, ?_, by omega⟩⟩
          split <;> omega
      · rintro ⟨-, h2, h3⟩
        rcases h3 with ⟨-, h3, h4⟩ | ⟨h3, -⟩ | ⟨h3, -⟩ | ⟨h3, -⟩ | ⟨h3, -⟩ | ⟨h3, -⟩
        · refine ⟨by omega, .inr (.inr ?_)⟩
          split at h3
          · exact .inl ⟨by omega, by omega, by omega⟩
          · exact .inr ⟨by omega, by omega, by omega⟩
        all_goals exact absurd h3 (by decide)
theorem yLeapTo_iff {b : Int → Int} {f own s : Int} (hf : 0 ≤ f ∧ f < 64) (hs : 0 ≤ s ∧ s < 64) : (∃ d, 0 ≤ d ∧ d < 8 ∧ yLeapTo b (f % 8) (f / 8) own d s) ↔ zAc f s * zamt (zAl f s) = 2 ∧ b s * own ≤ 0 := by
  have c1 : -7 ≤ s % 8 - f % 8 ∧ s % 8 - f % 8 ≤ 7 := by omega
  have c2 : -7 ≤ s / 8 - f / 8 ∧ s / 8 - f / 8 ≤ 7 := by omega
  constructor
  · rintro ⟨d, h1, h2, h3, h4, h5⟩
    refine ⟨?_, h5⟩
    unfold yIn at h3
    have e1 : s % 8 - f % 8 = tLC d := by omega
    have e2 : s / 8 - f / 8 = tLR d := by omega
    unfold zAc zAl
    rw [e1, e2]
    rcases yd8 ⟨h1, h2⟩ with e | e | e | e | e | e | e | e <;> subst e <;> decide
  · rintro ⟨h1, h2⟩
    unfold zAc zAl at h1
    have a1 := zamt_b c1
    have a2 := zamt_b c2
    have e : (zamt (s % 8 - f % 8) = 1 ∧ zamt (s / 8 - f / 8) = 2) ∨ (zamt (s % 8 - f % 8) = 2 ∧ zamt (s / 8 - f / 8) = 1) := by
      have k : zamt (s % 8 - f % 8) = 0 ∨ zamt (s % 8 - f % 8) = 1 ∨ zamt (s % 8 - f % 8) = 2 ∨ 3 ≤ zamt (s % 8 - f % 8) := by omega
      rcases k with k | k | k | k
      · rw [k] at h1
        omega
      · rw [k] at h1
        exact .inl ⟨k, by omega⟩
      · rw [k] at h1
        exact .inr ⟨k, by omega⟩
      · exfalso
        have k2 : zamt (s / 8 - f / 8) = 0 ∨ 1 ≤ zamt (s / 8 - f / 8) := by omega
        rcases k2 with k2 | k2
        · rw [k2] at h1
          omega
        · have := Int.mul_le_mul k k2 (by decide) (by omega)
          omega
    have mk : ∀ d, 0 ≤ d → d < 8 → s % 8 = f % 8 + tLC d → s / 8 = f / 8 + tLR d → ∃ d, 0 ≤ d ∧ d < 8 ∧ yLeapTo b (f % 8) (f / 8) own d s := fun d q1 q2 q3 q4 => ⟨d, q1, q2, by unfold yIn; omega, by omega, h2⟩
    unfold zamt at e
    rcases e with ⟨e1, e2⟩ | ⟨e1, e2⟩
    · split at e1 <;> split at e2
      · exact mk 4 (by decide) (by decide) (by rw [show tLC 4 = -1 from rfl]; omega) (by rw [show tLR 4 = -2 from rfl]; omega)
      · exact mk 7 (by decide) (by decide) (by rw [show tLC 7 = -1 from rfl]; omega) (by rw [show tLR 7 = 2 from rfl]; omega)
      · exact mk 3 (by decide) (by decide) (by rw [show tLC 3 = 1 from rfl]; omega) (by rw [show tLR 3 = -2 from rfl]; omega)
      · exact mk 0 (by decide) (by decide) (by rw [show tLC 0 = 1 from rfl]; omega) (by rw [show tLR 0 = 2 from rfl]; omega)
    · split at e1 <;> split at e2
      · exact mk 5 (by decide) (by decide) (by rw [show tLC 5 = -2 from rfl]; omega) (by rw [show tLR 5 = -1 from rfl]; omega)
      · exact mk 6 (by decide) (by decide) (by rw [show tLC 6 = -2 from rfl]; omega) (by rw [show tLR 6 = 1 from rfl]; omega)
      · exact mk 2 (by decide) (by decide) (by rw [show tLC 2 = 2 from rfl]; omega) (by rw [show tLR 2 = -1 from rfl]; omega)
      · exact mk 1 (by decide) (by decide) (by rw [show tLC 1 = 2 from rfl]; omega) (by rw [show tLR 1 = 1 from rfl]; omega)
theorem yLines_iff {b : Int → Int} {f own s n : Int} {p : Int → Prop} (hf : 0 ≤ f ∧ f < 64) (hs : 0 ≤ s ∧ s < 64) : (∃ d, 0 ≤ d ∧ d < 8 ∧ p d ∧ yLineTo b (f % 8) (f / 8) own d n s) ↔ b s * own ≤ 0 ∧ yFreeTo (yB b) f s ∧ ∃ d k, 0 ≤ d ∧ d < 8 ∧ p d ∧ 1 ≤ k ∧ k ≤ n ∧ yLn s f d k := by
  constructor
  · rintro ⟨d, h1, h2, h3, h4⟩
    obtain ⟨-, h5, h6, k, h7, h8, h9⟩ := yLineTo_fwd hf ⟨h1, h2⟩ h4
    exact ⟨h5, h6, d, k, h1, h2, h3, h7, h8, h9⟩
  · rintro ⟨h5, h6, d, k, h1, h2, h3, h7, h8, h9⟩
    exact ⟨d, h1, h2, h3, yLineTo_bwd hf ⟨h1, h2⟩ hs h5 h7 h8 h9 fun _ => h6⟩
theorem yLn_ex {f s : Int} (hf : 0 ≤ f ∧ f < 64) (hs : 0 ≤ s ∧ s < 64) (h : zLine f s) : ∃ d k, (0 ≤ d ∧ d < 8) ∧ 0 < k ∧ k < 8 ∧ yLn s f d k := by
  obtain ⟨d, k, h1, h2, h3, h4⟩ := yGeo2 hf hs h
  obtain ⟨-, -, h5, -⟩ := tS_opp h1
  exact ⟨_, k, h5, h2, h3, (yLn_opp h1).mp h4⟩
theorem yWays1 {d : Int} (h : 0 ≤ d ∧ d < 8) : (z_and 1 (if d % 2 = 0 then 1 else 2) ≠ 0 ↔ d % 2 = 0) ∧ (z_and 2 (if d % 2 = 0 then 1 else 2) ≠ 0 ↔ d % 2 = 1) ∧ z_and 3 (if d % 2 = 0 then 1 else 2) ≠ 0 := by
  rcases yd8 h with e | e | e | e | e | e | e | e <;> subst e <;> decide
/-- which squares a man of the class may go to, by kind -/
def yTarg (b : Int → Int) (f own k s : Int) : Prop := if k = 1 then yPawnTo b f own s else if k = 2 then ∃ d, 0 ≤ d ∧ d < 8 ∧ yLeapTo b (f % 8) (f / 8) own d s else ∃ d, 0 ≤ d ∧ d < 8 ∧ z_and (if k = 3 then 2 else if k = 4 then 1 else 3) (if d % 2 = 0 then 1 else 2) ≠ 0 ∧ yLineTo b (f % 8) (f / 8) own d (if k = 6 then 1 else 7) s
theorem yGeoL {f s : Int} (hf : 0 ≤ f ∧ f < 64) (hs : 0 ≤ s ∧ s < 64) (h1 : f ≠ s) (h : zAc f s = zamt (zAl f s) ∨ zAc f s * zAl f s = 0) : zLine f s := by
  refine ⟨h1, ?_⟩
  rcases h with h | h
  · exact .inr (.inr h)
  · rcases Int.mul_eq_zero.mp h with q | q
    · exact .inl (by have := (zamt_b (v := s % 8 - f % 8) (by omega)).2.2.mp q; omega)
    · exact .inr (.inl (by have : s / 8 - f / 8 = 0 := q; omega))
theorem yGeo3 {f s : Int} (hf : 0 ≤ f ∧ f < 64) (hs : 0 ≤ s ∧ s < 64) : (∃ d k, 0 ≤ d ∧ d < 8 ∧ z_and 2 (if d % 2 = 0 then 1 else 2) ≠ 0 ∧ 1 ≤ k ∧ k ≤ 7 ∧ yLn s f d k) ↔ zAc f s = zamt (zAl f s) ∧ 0 < zAc f s := by
  constructor
  · rintro ⟨d, k, h3, h4, h5, h6, h7, h8⟩
    obtain ⟨g1, g2, g3, g4, g5, g6, g7⟩ := yDir hf hs ⟨h3, h4⟩ (by omega) h8
    have hp := (yWays1 ⟨h3, h4⟩).2.1.mp h5
    rcases tS_par ⟨h3, h4⟩ with ⟨p1, p2, p3⟩ | ⟨p1, p2, p3, p4⟩ | ⟨p1, p2, p3, p4⟩
    · rw [g3, g4, p1, p2]
      exact ⟨rfl, by omega⟩
    · omega
    · omega
  · rintro ⟨q1, q2⟩
    obtain ⟨d, k, h4, h5, h6, h7⟩ := yLn_ex hf hs ⟨fun q => by subst q; unfold zAc zamt at q2; split at q2 <;> omega, .inr (.inr q1)⟩
    obtain ⟨g1, g2, g3, g4, g5, g6, g7⟩ := yDir hf hs h4 h5 h7
    refine ⟨d, k, h4.1, h4.2, (yWays1 h4).2.1.mpr ?_, by omega, by omega, h7⟩
    rcases tS_par h4 with ⟨p1, p2, p3⟩ | ⟨p1, p2, p3, p4⟩ | ⟨p1, p2, p3, p4⟩
    · exact p3
    · rw [g3, p2] at q2
      omega
    · rw [q1, g4, p3] at q2
      omega
theorem yGeo4 {f s : Int} (hf : 0 ≤ f ∧ f < 64) (hs : 0 ≤ s ∧ s < 64) : (∃ d k, 0 ≤ d ∧ d < 8 ∧ z_and 1 (if d % 2 = 0 then 1 else 2) ≠ 0 ∧ 1 ≤ k ∧ k ≤ 7 ∧ yLn s f d k) ↔ zAc f s * zAl f s = 0 ∧ f ≠ s := by
  constructor
  · rintro ⟨d, k, h3, h4, h5, h6, h7, h8⟩
    obtain ⟨g1, g2, g3, g4, g5, g6, g7⟩ := yDir hf hs ⟨h3, h4⟩ (by omega) h8
    have hp := (yWays1 ⟨h3, h4⟩).1.mp h5
    refine ⟨Int.mul_eq_zero.mpr ?_, g6⟩
    rcases tS_par ⟨h3, h4⟩ with ⟨p1, p2, p3⟩ | ⟨p1, p2, p3, p4⟩ | ⟨p1, p2, p3, p4⟩
    · omega
    · exact .inl (by rw [g3, p2]; omega)
    · exact .inr (g5.mpr p2)
  · rintro ⟨q1, q2⟩
    obtain ⟨d, k, h4, h5, h6, h7⟩ := yLn_ex hf hs (yGeoL hf hs q2 (.inr q1))
    obtain ⟨g1, g2, g3, g4, g5, g6, g7⟩ := yDir hf hs h4 h5 h7
    refine ⟨d, k, h4.1, h4.2, (yWays1 h4).1.mpr ?_, by omega, by omega, h7⟩
    rcases tS_par h4 with ⟨p1, p2, p3⟩ | ⟨p1, p2, p3, p4⟩ | ⟨p1, p2, p3, p4⟩
    · rcases Int.mul_eq_zero.mp q1 with q1 | q1
      · rw [g3, p1] at q1
        omega
      · have := g5.mp q1
        rw [this] at p2
        exact absurd p2 (by decide)
    · exact p4
    · exact p4
theorem yGeo5 {f s : Int} (hf : 0 ≤ f ∧ f < 64) (hs : 0 ≤ s ∧ s < 64) : (∃ d k, 0 ≤ d ∧ d < 8 ∧ z_and 3 (if d % 2 = 0 then 1 else 2) ≠ 0 ∧ 1 ≤ k ∧ k ≤ 7 ∧ yLn s f d k) ↔ f ≠ s ∧ (zAc f s * zAl f s = 0 ∨ zAc f s = zamt (zAl f s)) := by
  constructor
  · rintro ⟨d, k, h3, h4, h5, h6, h7, h8⟩
    obtain ⟨g1, g2, g3, g4, g5, g6, g7⟩ := yDir hf hs ⟨h3, h4⟩ (by omega) h8
    refine ⟨g6, ?_⟩
    rcases tS_par ⟨h3, h4⟩ with ⟨p1, p2, p3⟩ | ⟨p1, p2, p3, p4⟩ | ⟨p1, p2, p3, p4⟩
    · exact .inr (by rw [g3, g4, p1, p2])
    · exact .inl (Int.mul_eq_zero.mpr (.inl (by rw [g3, p2]; omega)))
    · exact .inl (Int.mul_eq_zero.mpr (.inr (g5.mpr p2)))
  · rintro ⟨q1, q2⟩
    obtain ⟨d, k, h4, h5, h6, h7⟩ := yLn_ex hf hs (yGeoL hf hs q1 q2.symm)
    exact ⟨d, k, h4.1, h4.2, (yWays1 h4).2.2, by omega, by omega, h7⟩
theorem yGeo6 {f s : Int} (hf : 0 ≤ f ∧ f < 64) (hs : 0 ≤ s ∧ s < 64) : (∃ d k, 0 ≤ d ∧ d < 8 ∧ z_and 3 (if d % 2 = 0 then 1 else 2) ≠ 0 ∧ 1 ≤ k ∧ k ≤ 1 ∧ yLn s f d k) ↔ f ≠ s ∧ zAc f s < 2 ∧ zamt (zAl f s) < 2 := by
  constructor
  · rintro ⟨d, k, h3, h4, h5, h6, h7, h8⟩
    obtain ⟨g1, g2, g3, g4, g5, g6, g7⟩ := yDir hf hs ⟨h3, h4⟩ (by omega) h8
    have hk1 : k = 1 := by omega
    subst hk1
    rw [Int.one_mul] at g3 g4
    rw [g3, g4]
    refine ⟨g6, ?_⟩
    rcases tS_par ⟨h3, h4⟩ with ⟨p1, p2, p3⟩ | ⟨p1, p2, p3, p4⟩ | ⟨p1, p2, p3, p4⟩ <;> omega
  · rintro ⟨q1, q2, q3⟩
    have hl : zLine f s := ⟨q1, by
      unfold zAc zAl at *
      have a1 := zamt_b (v := s % 8 - f % 8) (by omega)
      have a2 := zamt_b (v := s / 8 - f / 8) (by omega)
      by_cases z1 : zamt (s % 8 - f % 8) = 0
      · exact .inl (by have := a1.2.2.mp z1; omega)
      · by_cases z2 : zamt (s / 8 - f / 8) = 0
        · exact .inr (.inl (by have := a2.2.2.mp z2; omega))
        · exact .inr (.inr (by omega))⟩
    obtain ⟨d, k, h4, h5, h6, h7⟩ := yLn_ex hf hs hl
    obtain ⟨g1, g2, g3, g4, g5, g6, g7⟩ := yDir hf hs h4 h5 h7
    have : (zNs f s : Int) < 2 := by
      unfold zNs
      omega
    exact ⟨d, k, h4.1, h4.2, (yWays1 h4).2.2, by omega, by omega, h7⟩
/-- what a man of kind k (no pawn) reaches -/
def yRk (b : Int → Int) (f s k : Int) : Prop := if k = 2 then zAc f s * zamt (zAl f s) = 2 else if k = 3 then zAc f s = zamt (zAl f s) ∧ 0 < zAc f s ∧ yFreeTo b f s else if k = 4 then zAc f s * zAl f s = 0 ∧ f ≠ s ∧ yFreeTo b f s else if k = 5 then f ≠ s ∧ (zAc f s * zAl f s = 0 ∨ zAc f s = zamt (zAl f s)) ∧ yFreeTo b f s else f ≠ s ∧ zAc f s < 2 ∧ zamt (zAl f s) < 2
theorem yRk_of {b : Int → Int} {f s k : Int} (hk : b f % 8 = k) (h2 : 2 ≤ k ∧ k ≤ 6) : yReach b f s ↔ yRk b f s k := by
  unfold yReach
  rw [hk]
  have e : k = 2 ∨ k = 3 ∨ k = 4 ∨ k = 5 ∨ k = 6 := by omega
  rcases e with e | e | e | e | e <;> subst e <;> simp only [yRk, Int.reduceEq, false_and, true_and, false_or, or_false, if_true, if_false]
theorem yTarg_iff {b : Int → Int} {t f s : Int} (hB : zOkC b) (ht : t = 0 ∨ t = 1) (hf : 0 ≤ f ∧ f < 64) (hs : 0 ≤ s ∧ s < 64) (hk : 0 < b f * (if t = 0 then 1 else -1)) : yTarg b f (if t = 0 then 1 else -1) (b f * (if t = 0 then 1 else -1)) s ↔ yMay (yB b) (8 * t) f s := by
  have hbf := hB f hf.1 hf.2
  have ho : (if t = 0 then (1 : Int) else -1) = 1 ∨ (if t = 0 then (1 : Int) else -1) = -1 := by split <;> omega
  by_cases k1 : b f * (if t = 0 then 1 else -1) = 1
  · unfold yTarg
    rw [if_pos k1]
    exact yPawn_iff hB ht hf hs k1
  have c1 := yEnc_o ht hbf
  have c2 := yEnc_o ht (hB s hs.1 hs.2)
  obtain ⟨hr, -⟩ := yEnc_k ho hbf hk
  have e1 : zcol (yB b f) = zcol (yEnc (b f)) := rfl
  have e2 : zcol (yB b s) = zcol (yEnc (b s)) := rfl
  have hle : b f * (if t = 0 then 1 else -1) ≤ 6 := by rcases ho with q | q <;> rw [q] <;> omega
  unfold yMay yTarg
  rw [e1, e2, c1, ne_eq, c2, if_neg k1, if_neg (c := yB b f % 8 = 1 ∧ zcol (yEnc (b s)) = -1) (fun q => k1 (by rw [← hr]; exact q.1)), yRk_of (b := yB b) (f := f) hr ⟨by omega, hle⟩]
  generalize (if t = 0 then (1 : Int) else -1) = own at *
  generalize b f * own = k at *
  rw [Int.not_lt]
  have fr : zAc f s < 2 → zamt (zAl f s) < 2 → yFreeTo (yB b) f s := fun q1 q2 j j1 j2 => by
    unfold zNs at j2
    omega
  have e : k = 2 ∨ k = 3 ∨ k = 4 ∨ k = 5 ∨ k = 6 := by omega
  unfold yRk
  rcases e with e | e | e | e | e <;> subst e
  · simp only [Int.reduceEq, if_true, if_false]
    rw [yLeapTo_iff hf hs]
    exact ⟨fun q => ⟨hk, q.2, q.1⟩, fun q => ⟨q.2.2, q.2.1⟩⟩
  · simp only [Int.reduceEq, if_true, if_false]
    rw [yLines_iff hf hs, yGeo3 hf hs]
    exact ⟨fun q => ⟨hk, q.1, q.2.2.1, q.2.2.2, q.2.1⟩, fun q => ⟨q.2.1, q.2.2.2.2, q.2.2.1, q.2.2.2.1⟩⟩
  · simp only [Int.reduceEq, if_true, if_false]
    rw [yLines_iff hf hs, yGeo4 hf hs]
    exact ⟨fun q => ⟨hk, q.1, q.2.2.1, q.2.2.2, q.2.1⟩, fun q => ⟨q.2.1, q.2.2.2.2, q.2.2.1, q.2.2.2.1⟩⟩
  · simp only [Int.reduceEq, if_true, if_false]
    rw [yLines_iff hf hs, yGeo5 hf hs]
    exact ⟨fun q => ⟨hk, q.1, q.2.2.1, q.2.2.2, q.2.1⟩, fun q => ⟨q.2.1, q.2.2.2.2, q.2.2.1, q.2.2.2.1⟩⟩
  · simp only [Int.reduceEq, if_true, if_false]
    rw [yLines_iff hf hs, yGeo6 hf hs]
    exact ⟨fun q => ⟨hk, q.1, q.2.2.1, q.2.2.2⟩, fun q => ⟨q.2.1, fr q.2.2.2.1 q.2.2.2.2, q.2.2.1, q.2.2.2⟩⟩
section ZR
variable {L a e : Nat} {m : Nat → Int → Int} (D : Nat)
theorem zk_80 (h : yBd L a e) (hT : yTab m) (hB : zOkC (m e)) (f own k : Int) (hf : 0 ≤ f ∧ f < 64) (ho : own = 1 ∨ own = -1) (hk : 1 ≤ k ∧ k ≤ 6) : ∃ x, zmD zP (D + 2) 80 [zr a, zi f, zi k, zi own] (zW L m) = some (some (zl x), zW L m) ∧ yRow x (fun s => yTarg (m e) f own k s) := by
  have e : k = 1 ∨ k = 2 ∨ k = 3 ∨ k = 4 ∨ k = 5 ∨ k = 6 := by omega
  unfold yTarg
  rw [zen_80, zb_80_0]
  rcases e with e | e | e | e | e | e <;> subst e <;> simp only [if_pos, if_neg, Int.reduceEq, reduceIte, ybc h]
  · obtain ⟨x, h1, h2⟩ := zk_81 D h hB f own hf ho
    rw [h1, zbs]
    exact ⟨x, by rw [zmG_v, zb_80_46], h2⟩
  · obtain ⟨x, h1, h2⟩ := zk_82 D h hT hB f own hf ho
    rw [h1, zbs]
    exact ⟨x, by rw [zmG_v, zb_80_53], h2⟩
  · obtain ⟨x, h1, h2⟩ := zk_83 D h hT hB f own 2 7 hf ho (by decide)
    rw [h1, zbs]
    exact ⟨x, by rw [zmG_v, zb_80_63], h2⟩
  · obtain ⟨x, h1, h2⟩ := zk_83 D h hT hB f own 1 7 hf ho (by decide)
    rw [h1, zbs]
    exact ⟨x, by rw [zmG_v, zb_80_73], h2⟩
  · obtain ⟨x, h1, h2⟩ := zk_83 D h hT hB f own 3 7 hf ho (by decide)
    rw [h1, zbs]
    exact ⟨x, by rw [zmG_v, zb_80_83], h2⟩
  · obtain ⟨x, h1, h2⟩ := zk_83 D h hT hB f own 3 1 hf ho (by decide)
    rw [h1, zbs]
    exact ⟨x, by rw [zmG_v, zb_80_92], h2⟩
end ZR
