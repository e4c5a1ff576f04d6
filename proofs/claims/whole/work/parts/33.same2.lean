/-! what reaches strikes -/
theorem yIn_of {s q d k : Int} (hs : 0 ≤ s ∧ s < 64) (h : yLn s q d k) : yIn (q % 8 + k * tSC d) (q / 8 + k * tSR d) := by
  obtain ⟨h1, h2⟩ := h
  unfold yIn
  omega
theorem yIn_mid {q d k j : Int} (hq : 0 ≤ q ∧ q < 64) (hd : 0 ≤ d ∧ d < 8) (hj : 0 ≤ j ∧ j ≤ k) (h : yIn (q % 8 + k * tSC d) (q / 8 + k * tSR d)) : yIn (q % 8 + j * tSC d) (q / 8 + j * tSR d) := by
  have := tS_in hd
  have e1 : tSC d = -1 ∨ tSC d = 0 ∨ tSC d = 1 := by omega
  have e2 : tSR d = -1 ∨ tSR d = 0 ∨ tSR d = 1 := by omega
  unfold yIn at *
  rcases e1 with e1 | e1 | e1 <;> rcases e2 with e2 | e2 | e2 <;> rw [e1, e2] at h ⊢ <;> omega
theorem yRay_bwd {b : Int → Int} {q s d k foe : Int} (hs : 0 ≤ s ∧ s < 64) (hq : 0 ≤ q ∧ q < 64) (hd : 0 ≤ d ∧ d < 8) (hk : 0 < k ∧ k < 8) (h : yLn s q d k) (hfree : 1 < k → yFreeTo (yB b) s q) (hz : b s ≠ 0) (hh : yHits (b s) d foe k) : yRay b (q % 8) (q / 8) d foe 1 := by
  obtain ⟨g1, g2, g3, g4, g5, g6⟩ := yGeo hs hq hd hk.1 h
  have hin := yIn_of hs h
  refine ⟨k, by omega, hk.2, hin, fun j hj1 hj2 => ⟨yIn_mid hq hd ⟨by omega, by omega⟩ hin, ?_⟩, by rw [← g6]; exact hz, by rw [← g6]; exact hh⟩
  have e := hfree (by omega) (k - j).toNat (by omega) (by omega)
  rw [g2, show (((k - j).toNat : Nat) : Int) = k - j by omega] at e
  have e2 : s + (k - j) * -(8 * tSR d + tSC d) = ySq (q % 8) (q / 8) d j := by
    rw [g6, ySq_back hd, show k - (k - j) = j by omega]
  rw [e2] at e
  exact yEnc_z.mp e
theorem yStruck_bwd {b : Int → Int} {q t s : Int} (hB : zOkC b) (hq : 0 ≤ q ∧ q < 64) (ht : t = 0 ∨ t = 1) (hs : 0 ≤ s ∧ s < 64) (hc : zcol (yB b s) = 8 - 8 * t) (h : yReach (yB b) s q) : yStruck b t q := by
  have hv := hB s hs.1 hs.2
  have hpos := (yEnc_c ht hv).mp hc
  have hf : (if t = 0 then (-1 : Int) else 1) = 1 ∨ (if t = 0 then (-1 : Int) else 1) = -1 := by split <;> omega
  unfold yStruck
  generalize hfo : (if t = 0 then (-1 : Int) else 1) = foe at *
  obtain ⟨k1, k2⟩ := yEnc_k hf hv hpos
  have kk : yB b s % 8 = b s * foe := k1
  have k3 : 8 < yB b s ↔ foe = -1 := k2
  have hz : b s ≠ 0 := fun x => by
    rw [x] at hpos
    omega
  have line : zLine s q → ∀ P : Prop, (∀ d k, (0 ≤ d ∧ d < 8) → 0 < k → k < 8 → yLn s q d k → zAc s q = k * zamt (tSC d) → zAl s q = -(k * tSR d) → zamt (zAl s q) = k * zamt (tSR d) → P) → P := fun hl P hP => by
    obtain ⟨d, k, hd, hk1, hk2, hl2⟩ := yGeo2 hs hq hl
    obtain ⟨g1, g2, g3, g4, g5, g6⟩ := yGeo hs hq hd hk1 hl2
    have hin := tS_in hd
    exact hP d k hd hk1 hk2 hl2 g3 g4 (by rw [g4, zamt_mul (by omega) (by omega)])
  unfold yReach at h
  rw [kk] at h
  rcases h with ⟨h1, h2, h3⟩ | ⟨h1, h2⟩ | ⟨h1, h2, h3, h4⟩ | ⟨h1, h2, h3, h4⟩ | ⟨h1, h2, h3, h4⟩ | ⟨h1, h2, h3, h4⟩
  · have hal : zAl s q = foe := by
      rw [h3]
      by_cases k4 : foe = -1
      · rw [if_pos (k3.mpr k4), k4]
      · rw [if_neg (fun x => k4 (k3.mp x))]
        omega
    have hza : zamt (zAl s q) = 1 := by
      rw [hal]
      rcases hf with e | e <;> rw [e] <;> rfl
    refine line ⟨fun x => ?_, .inr (.inr (by rw [h2, hza]))⟩ _ fun d k hd hk1 hk2 hl g3 g4 g5 => ⟨d, hd.1, hd.2, .inr (yRay_bwd hs hq hd ⟨hk1, hk2⟩ hl (fun x => ?_) hz ?_)⟩
    · rw [x] at h2
      unfold zAc at h2
      rw [Int.sub_self] at h2
      exact absurd h2 (by decide)
    · rcases tS_par hd with ⟨p1, p2, p3⟩ | ⟨p1, p2, p3, p4⟩ | ⟨p1, p2, p3, p4⟩
      · rw [p1] at g3
        omega
      · rw [p2] at g3
        omega
      · rw [p1] at g3
        omega
    · rcases tS_par hd with ⟨p1, p2, p3⟩ | ⟨p1, p2, p3, p4⟩ | ⟨p1, p2, p3, p4⟩
      · rw [p1] at g3
        have hk : k = 1 := by omega
        subst hk
        exact .inr (.inr ⟨rfl, .inr ⟨h1, by omega, by omega⟩⟩)
      · rw [p2] at g3
        omega
      · rw [p3] at g5
        omega
  · have c1 : 0 ≤ zAc s q ∧ zAc s q ≤ 7 := by
      have := zamt_b (v := q % 8 - s % 8) (by omega)
      exact ⟨this.1, this.2.1⟩
    have c2 : 0 ≤ zamt (zAl s q) ∧ zamt (zAl s q) ≤ 7 := by
      have := zamt_b (v := q / 8 - s / 8) (by omega)
      exact ⟨this.1, this.2.1⟩
    have c3 : zAc s q = 1 ∧ zamt (zAl s q) = 2 ∨ zAc s q = 2 ∧ zamt (zAl s q) = 1 := by
      generalize zAc s q = x at *
      generalize zamt (zAl s q) = y at *
      have : x = 0 ∨ x = 1 ∨ x = 2 ∨ x = 3 ∨ x = 4 ∨ x = 5 ∨ x = 6 ∨ x = 7 := by omega
      rcases this with e | e | e | e | e | e | e | e <;> subst e <;> omega
    have key : (s % 8 - q % 8 = 1 ∧ s / 8 - q / 8 = 2) ∨ (s % 8 - q % 8 = 2 ∧ s / 8 - q / 8 = 1) ∨ (s % 8 - q % 8 = 2 ∧ s / 8 - q / 8 = (-1)) ∨ (s % 8 - q % 8 = 1 ∧ s / 8 - q / 8 = (-2)) ∨ (s % 8 - q % 8 = (-1) ∧ s / 8 - q / 8 = (-2)) ∨ (s % 8 - q % 8 = (-2) ∧ s / 8 - q / 8 = (-1)) ∨ (s % 8 - q % 8 = (-2) ∧ s / 8 - q / 8 = 1) ∨ (s % 8 - q % 8 = (-1) ∧ s / 8 - q / 8 = 2) := by
      unfold zAc zAl zamt at c3
      repeat (split at c3)
      all_goals omega
    have hb : b s = foe * 2 := by
      rcases hf with e | e <;> rw [e] at h1 ⊢ <;> omega
    have hleap : ∀ d, 0 ≤ d → d < 8 → s % 8 - q % 8 = tLC d → s / 8 - q / 8 = tLR d → ∃ d, 0 ≤ d ∧ d < 8 ∧ (yLeap b (q % 8) (q / 8) d foe ∨ yRay b (q % 8) (q / 8) d foe 1) := fun d x1 x2 x3 x4 => ⟨d, x1, x2, .inl ⟨by unfold yIn; omega, by rw [show (q / 8 + tLR d) * 8 + (q % 8 + tLC d) = s by omega]; exact hb⟩⟩
    rcases key with ⟨x, y⟩ | ⟨x, y⟩ | ⟨x, y⟩ | ⟨x, y⟩ | ⟨x, y⟩ | ⟨x, y⟩ | ⟨x, y⟩ | ⟨x, y⟩
    · exact hleap 0 (by decide) (by decide) x y
    · exact hleap 1 (by decide) (by decide) x y
    · exact hleap 2 (by decide) (by decide) x y
    · exact hleap 3 (by decide) (by decide) x y
    · exact hleap 4 (by decide) (by decide) x y
    · exact hleap 5 (by decide) (by decide) x y
    · exact hleap 6 (by decide) (by decide) x y
    · exact hleap 7 (by decide) (by decide) x y
  · refine line ⟨fun x => ?_, .inr (.inr h2)⟩ _ fun d k hd hk1 hk2 hl g3 g4 g5 => ⟨d, hd.1, hd.2, .inr (yRay_bwd hs hq hd ⟨hk1, hk2⟩ hl (fun _ => h4) hz (.inr (.inl ?_)))⟩
    · rw [x] at h3
      unfold zAc at h3
      rw [Int.sub_self] at h3
      exact absurd h3 (by decide)
    · rcases tS_par hd with ⟨p1, p2, p3⟩ | ⟨p1, p2, p3, p4⟩ | ⟨p1, p2, p3, p4⟩
      · rw [if_neg (by omega)]
        exact h1
      · rw [p2] at g3
        omega
      · rw [p3] at g5
        omega
  · have hl0 : s % 8 = q % 8 ∨ s / 8 = q / 8 := by
      rcases Int.mul_eq_zero.mp h2 with x | x
      · left
        unfold zAc zamt at x
        split at x <;> omega
      · right
        unfold zAl at x
        omega
    refine line ⟨h3, by rcases hl0 with x | x; exact .inl x; exact .inr (.inl x)⟩ _ fun d k hd hk1 hk2 hl g3 g4 g5 => ⟨d, hd.1, hd.2, .inr (yRay_bwd hs hq hd ⟨hk1, hk2⟩ hl (fun _ => h4) hz (.inr (.inl ?_)))⟩
    rcases tS_par hd with ⟨p1, p2, p3⟩ | ⟨p1, p2, p3, p4⟩ | ⟨p1, p2, p3, p4⟩
    · exfalso
      rw [p1] at g3
      rw [p2] at g5
      rcases Int.mul_eq_zero.mp h2 with x | x
      · omega
      · rw [x] at g5
        rw [show zamt 0 = 0 from rfl] at g5
        omega
    · rw [if_pos p4]
      exact h1
    · rw [if_pos p4]
      exact h1
  · have hl0 : s % 8 = q % 8 ∨ s / 8 = q / 8 ∨ zAc s q = zamt (zAl s q) := by
      rcases h3 with h3 | h3
      · rcases Int.mul_eq_zero.mp h3 with x | x
        · left
          unfold zAc zamt at x
          split at x <;> omega
        · right
          left
          unfold zAl at x
          omega
      · exact .inr (.inr h3)
    exact line ⟨h2, hl0⟩ _ fun d k hd hk1 hk2 hl g3 g4 g5 => ⟨d, hd.1, hd.2, .inr (yRay_bwd hs hq hd ⟨hk1, hk2⟩ hl (fun _ => h4) hz (.inl h1))⟩
  · have hl0 : s % 8 = q % 8 ∨ s / 8 = q / 8 ∨ zAc s q = zamt (zAl s q) := by
      unfold zAc zAl zamt at *
      repeat (split at h3)
      all_goals (repeat (split at h4))
      all_goals (repeat split)
      all_goals omega
    refine line ⟨h2, hl0⟩ _ fun d k hd hk1 hk2 hl g3 g4 g5 => ?_
    have hk : k = 1 := by
      rcases tS_par hd with ⟨p1, p2, p3⟩ | ⟨p1, p2, p3, p4⟩ | ⟨p1, p2, p3, p4⟩
      · rw [p1] at g3
        omega
      · rw [p3] at g5
        omega
      · rw [p1] at g3
        omega
    exact ⟨d, hd.1, hd.2, .inr (yRay_bwd hs hq hd ⟨hk1, hk2⟩ hl (fun x => absurd x (by omega)) hz (.inr (.inr ⟨hk, .inl h1⟩)))⟩
