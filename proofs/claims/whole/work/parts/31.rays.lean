/-! rays: the class's steps and the reference's lines -/
def yLn (s q d k : Int) : Prop := s % 8 = q % 8 + k * tSC d ∧ s / 8 = q / 8 + k * tSR d
theorem yGeo {s q d k : Int} (hs : 0 ≤ s ∧ s < 64) (hq : 0 ≤ q ∧ q < 64) (hd : 0 ≤ d ∧ d < 8) (hk : 0 < k) (h : yLn s q d k) : (zNs s q : Int) = k ∧ zSt s q = -(8 * tSR d + tSC d) ∧ zAc s q = k * zamt (tSC d) ∧ zAl s q = -(k * tSR d) ∧ s ≠ q ∧ s = ySq (q % 8) (q / 8) d k := by
  obtain ⟨h1, h2⟩ := h
  unfold ySq zNs zSt zAc zAl
  rcases yd8 hd with e | e | e | e | e | e | e | e <;> subst e
  · rw [show tSC 0 = 1 from rfl] at h1 ⊢
    rw [show tSR 0 = 0 from rfl] at h2 ⊢
    rw [show zamt 1 = 1 from rfl]
    unfold zsgn zamt
    refine ⟨?_, ?_, ?_, ?_, ?_, ?_⟩ <;> (repeat (split)) <;> omega
  · rw [show tSC 1 = 1 from rfl] at h1 ⊢
    rw [show tSR 1 = 1 from rfl] at h2 ⊢
    rw [show zamt 1 = 1 from rfl]
    unfold zsgn zamt
    refine ⟨?_, ?_, ?_, ?_, ?_, ?_⟩ <;> (repeat (split)) <;> omega
  · rw [show tSC 2 = 0 from rfl] at h1 ⊢
    rw [show tSR 2 = 1 from rfl] at h2 ⊢
    rw [show zamt 0 = 0 from rfl]
    unfold zsgn zamt
    refine ⟨?_, ?_, ?_, ?_, ?_, ?_⟩ <;> (repeat (split)) <;> omega
  · rw [show tSC 3 = (-1) from rfl] at h1 ⊢
    rw [show tSR 3 = 1 from rfl] at h2 ⊢
    rw [show zamt (-1) = 1 from rfl]
    unfold zsgn zamt
    refine ⟨?_, ?_, ?_, ?_, ?_, ?_⟩ <;> (repeat (split)) <;> omega
  · rw [show tSC 4 = (-1) from rfl] at h1 ⊢
    rw [show tSR 4 = 0 from rfl] at h2 ⊢
    rw [show zamt (-1) = 1 from rfl]
    unfold zsgn zamt
    refine ⟨?_, ?_, ?_, ?_, ?_, ?_⟩ <;> (repeat (split)) <;> omega
  · rw [show tSC 5 = (-1) from rfl] at h1 ⊢
    rw [show tSR 5 = (-1) from rfl] at h2 ⊢
    rw [show zamt (-1) = 1 from rfl]
    unfold zsgn zamt
    refine ⟨?_, ?_, ?_, ?_, ?_, ?_⟩ <;> (repeat (split)) <;> omega
  · rw [show tSC 6 = 0 from rfl] at h1 ⊢
    rw [show tSR 6 = (-1) from rfl] at h2 ⊢
    rw [show zamt 0 = 0 from rfl]
    unfold zsgn zamt
    refine ⟨?_, ?_, ?_, ?_, ?_, ?_⟩ <;> (repeat (split)) <;> omega
  · rw [show tSC 7 = 1 from rfl] at h1 ⊢
    rw [show tSR 7 = (-1) from rfl] at h2 ⊢
    rw [show zamt 1 = 1 from rfl]
    unfold zsgn zamt
    refine ⟨?_, ?_, ?_, ?_, ?_, ?_⟩ <;> (repeat (split)) <;> omega
theorem yGeo2 {s q : Int} (hs : 0 ≤ s ∧ s < 64) (hq : 0 ≤ q ∧ q < 64) (h : zLine s q) : ∃ d k, (0 ≤ d ∧ d < 8) ∧ 0 < k ∧ k < 8 ∧ yLn s q d k := by
  obtain ⟨h1, h2⟩ := h
  unfold zAc zAl zamt at h2
  unfold yLn
  rcases Int.lt_trichotomy (s % 8) (q % 8) with a | a | a <;> rcases Int.lt_trichotomy (s / 8) (q / 8) with b | b | b
  · refine ⟨5, q % 8 - s % 8, by decide, by omega, by omega, ?_, ?_⟩
    · rw [show tSC 5 = (-1) from rfl]
      omega
    · rw [show tSR 5 = (-1) from rfl]
      repeat (split at h2)
      all_goals omega
  · refine ⟨4, q % 8 - s % 8, by decide, by omega, by omega, ?_, ?_⟩
    · rw [show tSC 4 = (-1) from rfl]
      omega
    · rw [show tSR 4 = 0 from rfl]
      repeat (split at h2)
      all_goals omega
  · refine ⟨3, q % 8 - s % 8, by decide, by omega, by omega, ?_, ?_⟩
    · rw [show tSC 3 = (-1) from rfl]
      omega
    · rw [show tSR 3 = 1 from rfl]
      repeat (split at h2)
      all_goals omega
  · refine ⟨6, q / 8 - s / 8, by decide, by omega, by omega, ?_, ?_⟩
    · rw [show tSC 6 = 0 from rfl]
      omega
    · rw [show tSR 6 = (-1) from rfl]
      repeat (split at h2)
      all_goals omega
  · exact absurd (show s = q by omega) h1
  · refine ⟨2, s / 8 - q / 8, by decide, by omega, by omega, ?_, ?_⟩
    · rw [show tSC 2 = 0 from rfl]
      omega
    · rw [show tSR 2 = 1 from rfl]
      repeat (split at h2)
      all_goals omega
  · refine ⟨7, s % 8 - q % 8, by decide, by omega, by omega, ?_, ?_⟩
    · rw [show tSC 7 = 1 from rfl]
      omega
    · rw [show tSR 7 = (-1) from rfl]
      repeat (split at h2)
      all_goals omega
  · refine ⟨0, s % 8 - q % 8, by decide, by omega, by omega, ?_, ?_⟩
    · rw [show tSC 0 = 1 from rfl]
      omega
    · rw [show tSR 0 = 0 from rfl]
      repeat (split at h2)
      all_goals omega
  · refine ⟨1, s % 8 - q % 8, by decide, by omega, by omega, ?_, ?_⟩
    · rw [show tSC 1 = 1 from rfl]
      omega
    · rw [show tSR 1 = 1 from rfl]
      repeat (split at h2)
      all_goals omega
