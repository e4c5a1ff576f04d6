/-! struck as the class says, reached as the reference says -/
def yEnc (v : Int) : Int := if v < 0 then 8 - v else v
def yB (b : Int → Int) : Int → Int := fun s => yEnc (b s)
theorem yEnc_z {v : Int} : yEnc v = 0 ↔ v = 0 := by
  unfold yEnc
  split <;> omega
theorem yEnc_c {v t : Int} (ht : t = 0 ∨ t = 1) (hv : -6 ≤ v ∧ v ≤ 6) : zcol (yEnc v) = 8 - 8 * t ↔ 0 < v * (if t = 0 then -1 else 1) := by
  unfold zcol yEnc
  rcases ht with e | e <;> subst e
  · rw [if_pos rfl]
    repeat (split)
    all_goals omega
  · rw [show (if (1 : Int) = 0 then (-1 : Int) else 1) = 1 from rfl]
    repeat (split)
    all_goals omega
theorem yEnc_k {v foe : Int} (hf : foe = 1 ∨ foe = -1) (hv : -6 ≤ v ∧ v ≤ 6) (h : 0 < v * foe) : yEnc v % 8 = v * foe ∧ (8 < yEnc v ↔ foe = -1) := by
  unfold yEnc
  rcases hf with e | e <;> subst e <;> split <;> omega
theorem tS_par {d : Int} (h : 0 ≤ d ∧ d < 8) : (zamt (tSC d) = 1 ∧ zamt (tSR d) = 1 ∧ d % 2 = 1) ∨ (tSC d = 0 ∧ zamt (tSC d) = 0 ∧ zamt (tSR d) = 1 ∧ d % 2 = 0) ∨ (zamt (tSC d) = 1 ∧ tSR d = 0 ∧ zamt (tSR d) = 0 ∧ d % 2 = 0) := by
  rcases yd8 h with e | e | e | e | e | e | e | e <;> subst e <;> decide
theorem ySq_back {c r d k j : Int} (h : 0 ≤ d ∧ d < 8) : ySq c r d k + j * -(8 * tSR d + tSC d) = ySq c r d (k - j) := by
  unfold ySq
  have := tS_in h
  have e1 : tSC d = -1 ∨ tSC d = 0 ∨ tSC d = 1 := by omega
  have e2 : tSR d = -1 ∨ tSR d = 0 ∨ tSR d = 1 := by omega
  rcases e1 with e1 | e1 | e1 <;> rcases e2 with e2 | e2 | e2 <;> rw [e1, e2] <;> omega
theorem zamt_mul {k v : Int} (hk : 0 ≤ k) (hv : v = -1 ∨ v = 0 ∨ v = 1) : zamt (-(k * v)) = k * zamt v := by
  rcases hv with e | e | e <;> subst e
  · rw [show zamt (-1) = 1 from rfl]
    unfold zamt
    split <;> omega
  · rw [show zamt 0 = 0 from rfl]
    unfold zamt
    split <;> omega
  · rw [show zamt 1 = 1 from rfl]
    unfold zamt
    split <;> omega
theorem yLn_of {q d k : Int} (h : yIn (q % 8 + k * tSC d) (q / 8 + k * tSR d)) : (0 ≤ ySq (q % 8) (q / 8) d k ∧ ySq (q % 8) (q / 8) d k < 64) ∧ yLn (ySq (q % 8) (q / 8) d k) q d k := by
  unfold yIn at h
  unfold ySq yLn
  omega
theorem yRay_fwd {b : Int → Int} {q t d : Int} (hB : zOkC b) (hq : 0 ≤ q ∧ q < 64) (ht : t = 0 ∨ t = 1) (hd : 0 ≤ d ∧ d < 8) (h : yRay b (q % 8) (q / 8) d (if t = 0 then -1 else 1) 1) : ∃ s, 0 ≤ s ∧ s < 64 ∧ zcol (yB b s) = 8 - 8 * t ∧ yReach (yB b) s q := by
  obtain ⟨k, h1, h2, h3, h4, h5, h6⟩ := h
  obtain ⟨a1, a2⟩ := yLn_of h3
  have g := yGeo a1 hq hd (by omega) a2
  have hv := hB _ a1.1 a1.2
  have hf : (if t = 0 then (-1 : Int) else 1) = 1 ∨ (if t = 0 then (-1 : Int) else 1) = -1 := by split <;> omega
  have hcol := yEnc_c ht hv
  generalize hfo : (if t = 0 then (-1 : Int) else 1) = foe at *
  generalize hs : ySq (q % 8) (q / 8) d k = s at *
  obtain ⟨g1, g2, g3, g4, g5, g6⟩ := g
  have hpos : 0 < b s * foe := by
    unfold yHits at h6
    split at h6 <;> omega
  obtain ⟨k1, k2⟩ := yEnc_k hf hv hpos
  have hfree : yFreeTo (yB b) s q := by
    intro j hj1 hj2
    rw [g2, ← hs, ySq_back hd]
    exact yEnc_z.mpr (h4 (k - j) (by omega) (by omega)).2
  refine ⟨s, a1.1, a1.2, hcol.mpr hpos, ?_⟩
  have hin := tS_in hd
  have g4' : zamt (zAl s q) = k * zamt (tSR d) := by rw [g4, zamt_mul (by omega) (by omega)]
  have kk : yB b s % 8 = b s * foe := k1
  unfold yReach
  rw [kk]
  rcases h6 with h6 | h6 | ⟨h7, h6⟩
  · refine .inr (.inr (.inr (.inr (.inl ⟨h6, g5, ?_, hfree⟩))))
    rcases tS_par hd with ⟨p1, p2, p3⟩ | ⟨p1, p2, p3, p4⟩ | ⟨p1, p2, p3, p4⟩
    · exact .inr (by rw [g3, g4', p1, p2])
    · exact .inl (by rw [g3, p2]; omega)
    · exact .inl (by rw [g4, p2]; omega)
  · rcases tS_par hd with ⟨p1, p2, p3⟩ | ⟨p1, p2, p3, p4⟩ | ⟨p1, p2, p3, p4⟩
    · rw [if_neg (by omega)] at h6
      exact .inr (.inr (.inl ⟨h6, by rw [g3, g4', p1, p2], by rw [g3, p1]; omega, hfree⟩))
    · rw [if_pos p4] at h6
      exact .inr (.inr (.inr (.inl ⟨h6, by rw [g3, p2]; omega, g5, hfree⟩)))
    · rw [if_pos p4] at h6
      exact .inr (.inr (.inr (.inl ⟨h6, by rw [g4, p2]; omega, g5, hfree⟩)))
  · subst h7
    rcases h6 with h6 | ⟨h6, h7, h8⟩
    · refine .inr (.inr (.inr (.inr (.inr ⟨h6, g5, ?_, ?_⟩))))
      · rw [g3]
        rcases tS_par hd with ⟨p1, p2, p3⟩ | ⟨p1, p2, p3, p4⟩ | ⟨p1, p2, p3, p4⟩ <;> omega
      · rw [g4']
        rcases tS_par hd with ⟨p1, p2, p3⟩ | ⟨p1, p2, p3, p4⟩ | ⟨p1, p2, p3, p4⟩ <;> omega
    · refine .inl ⟨h6, ?_, ?_⟩
      · rw [g3]
        rcases tS_par hd with ⟨p1, p2, p3⟩ | ⟨p1, p2, p3, p4⟩ | ⟨p1, p2, p3, p4⟩ <;> omega
      · rw [g4, h8]
        have k3 : 8 < yB b s ↔ foe = -1 := k2
        by_cases k4 : foe = -1
        · rw [if_pos (k3.mpr k4), k4]
          omega
        · rw [if_neg (fun x => k4 (k3.mp x))]
          omega
theorem yLeap_fwd {b : Int → Int} {q t d : Int} (hB : zOkC b) (hq : 0 ≤ q ∧ q < 64) (ht : t = 0 ∨ t = 1) (hd : 0 ≤ d ∧ d < 8) (h : yLeap b (q % 8) (q / 8) d (if t = 0 then -1 else 1)) : ∃ s, 0 ≤ s ∧ s < 64 ∧ zcol (yB b s) = 8 - 8 * t ∧ yReach (yB b) s q := by
  obtain ⟨h3, h4⟩ := h
  have hf : (if t = 0 then (-1 : Int) else 1) = 1 ∨ (if t = 0 then (-1 : Int) else 1) = -1 := by split <;> omega
  unfold yIn at h3
  generalize hs : (q / 8 + tLR d) * 8 + (q % 8 + tLC d) = s at *
  have a1 : 0 ≤ s ∧ s < 64 := by omega
  have hv := hB s a1.1 a1.2
  have hcol := yEnc_c ht hv
  generalize hfo : (if t = 0 then (-1 : Int) else 1) = foe at *
  have hpos : 0 < b s * foe := by
    rw [h4]
    rcases hf with e | e <;> subst e <;> decide
  obtain ⟨k1, k2⟩ := yEnc_k hf hv hpos
  refine ⟨s, a1.1, a1.2, hcol.mpr hpos, .inr (.inl ⟨?_, ?_⟩)⟩
  · show yEnc (b s) % 8 = 2
    rw [k1, h4]
    rcases hf with e | e <;> subst e <;> decide
  · have e1 : q % 8 - s % 8 = -tLC d := by omega
    have e2 : q / 8 - s / 8 = -tLR d := by omega
    unfold zAc zAl
    rw [e1, e2]
    rcases yd8 hd with e | e | e | e | e | e | e | e <;> subst e <;> decide
