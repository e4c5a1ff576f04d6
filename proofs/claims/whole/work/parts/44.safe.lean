/-! when a king stays unstruck -/
theorem yStruck_cg {b1 b2 : Int → Int} {t q : Int} (hq : 0 ≤ q ∧ q < 64) (h : ∀ x, 0 ≤ x → x < 64 → b1 x = b2 x ∨ b1 x * (if t = 0 then -1 else 1) < 0 ∧ b2 x * (if t = 0 then -1 else 1) < 0) (h1 : yStruck b1 t q) : yStruck b2 t q := by
  have hf : (if t = 0 then (-1 : Int) else 1) = 1 ∨ (if t = 0 then (-1 : Int) else 1) = -1 := by split <;> omega
  unfold yStruck at *
  generalize (if t = 0 then (-1 : Int) else 1) = foe at *
  obtain ⟨d, d1, d2, h1⟩ := h1
  refine ⟨d, d1, d2, ?_⟩
  rcases h1 with ⟨h1, h2⟩ | ⟨k, k1, k2, k3, k4, k5, k6⟩
  · refine .inl ⟨h1, ?_⟩
    unfold yIn at h1
    rcases h ((q / 8 + tLR d) * 8 + (q % 8 + tLC d)) (by omega) (by omega) with g | ⟨g, -⟩
    · rw [← g]
      exact h2
    · rw [h2] at g
      rcases hf with e | e <;> rw [e] at g <;> omega
  · have hr : ∀ j, yIn (q % 8 + j * tSC d) (q / 8 + j * tSR d) → 0 ≤ ySq (q % 8) (q / 8) d j ∧ ySq (q % 8) (q / 8) d j < 64 := fun j hj => (yLn_of hj).1
    refine .inr ⟨k, k1, k2, k3, fun j j1 j2 => ⟨(k4 j j1 j2).1, ?_⟩, ?_⟩
    · obtain ⟨g1, g2⟩ := k4 j j1 j2
      rcases h _ (hr j g1).1 (hr j g1).2 with g | ⟨g, -⟩
      · rw [← g]
        exact g2
      · rw [g2] at g
        omega
    · rcases h _ (hr k k3).1 (hr k k3).2 with g | ⟨g, -⟩
      · rw [← g]
        exact ⟨k5, k6⟩
      · exfalso
        unfold yHits at k6
        split at k6 <;> omega
/-- the board behind a move, the class's men -/
def yPutC (b : Int → Int) (f t : Int) : Int → Int := fun x => if x = f then 0 else if x = t then yCrC (b f) t else b x
theorem yCrC_enc {v t : Int} (hv : -6 ≤ v ∧ v ≤ 6) : yEnc (yCrC v t) = yCrown (yEnc v) t := by
  unfold yCrC yCrown yEnc
  repeat (split)
  all_goals omega
theorem yPutC_enc {b : Int → Int} {f t : Int} (hB : zOkC b) (hf : 0 ≤ f ∧ f < 64) : yB (yPutC b f t) = yPut (yB b) f t := by
  funext x
  unfold yB yPutC yPut
  dsimp only
  split
  · rfl
  · split
    · exact yCrC_enc (hB f hf.1 hf.2)
    · rfl
theorem yCrC_sgn {v t foe : Int} (hf : foe = 1 ∨ foe = -1) (h : v * foe < 0) : yCrC v t * foe < 0 ∧ (yCrC v t = 6 ↔ v = 6) ∧ (yCrC v t = -6 ↔ v = -6) := by
  unfold yCrC
  rcases hf with e | e <;> subst e <;> (repeat (split)) <;> omega
theorem zOkC_put {b : Int → Int} {f t : Int} (hB : zOkC b) (hf : 0 ≤ f ∧ f < 64) : zOkC (yPutC b f t) := fun x h1 h2 => by
  have q1 := hB f hf.1 hf.2
  have q2 := hB x h1 h2
  unfold yPutC yCrC
  repeat (split)
  all_goals omega
/-- the king's place behind a move of one's own -/
theorem yKg_put {b : Int → Int} {f t v k foe : Int} (hf : 0 ≤ f ∧ f < 64) (ht : 0 ≤ t ∧ t < 64) (hne : f ≠ t) (hfo : foe = 1 ∨ foe = -1) (hv : v * foe < 0) (hv2 : v = 6 ∨ v = -6) (hown : b f * foe < 0) (htk : ¬ b t * foe < 0) (h : yKg b v k) : yKg (yPutC b f t) v (if f = k then t else k) := by
  have hc := yCrC_sgn (t := t) hfo hown
  have hcv : yCrC (b f) t = v ↔ b f = v := by
    rcases hv2 with e | e <;> subst e
    · exact hc.2.1
    · exact hc.2.2
  have hz : v ≠ 0 := by omega
  have htv : b t ≠ v := fun q => htk (by rw [q]; exact hv)
  rcases h with ⟨rfl, h⟩ | ⟨h1, h2, h3, h4⟩
  · refine .inl ⟨by rw [if_neg (by omega)], fun s s1 s2 => ?_⟩
    unfold yPutC
    split
    · exact hz.symm
    · split
      · exact fun q => h f hf.1 hf.2 (hcv.mp q)
      · exact h s s1 s2
  · by_cases g : f = k
    · rw [if_pos g]
      subst g
      refine .inr ⟨ht.1, ht.2, ?_, fun s s1 s2 h5 => ?_⟩
      · unfold yPutC
        rw [if_neg hne.symm, if_pos rfl]
        exact hcv.mpr h3
      · unfold yPutC at h5
        split at h5
        · exact absurd h5.symm hz
        · split at h5
          · assumption
          · rename_i g1 g2
            exact absurd (h4 s s1 s2 h5) g1
    · rw [if_neg g]
      have htk2 : k ≠ t := fun q => htv (by rw [← q]; exact h3)
      refine .inr ⟨h1, h2, ?_, fun s s1 s2 h5 => ?_⟩
      · unfold yPutC
        rw [if_neg (fun q => g q.symm), if_neg htk2]
        exact h3
      · unfold yPutC at h5
        split at h5
        · exact absurd h5.symm hz
        · split at h5
          · exact absurd (h4 f hf.1 hf.2 (hcv.mp h5)) g
          · exact h4 s s1 s2 h5
theorem yMvC_put {b : Int → Int} {f s t q : Int} (hf : 0 ≤ f ∧ f < 64) (hne : f ≠ s) (hq : 0 ≤ q ∧ q < 64) (hown : b f * (if t = 0 then -1 else 1) < 0) : yStruck (yMvC b f s) t q ↔ yStruck (yPutC b f s) t q := by
  have hfo : (if t = 0 then (-1 : Int) else 1) = 1 ∨ (if t = 0 then (-1 : Int) else 1) = -1 := by split <;> omega
  have hc := (yCrC_sgn (t := s) hfo hown).1
  have key : ∀ x, yMvC b f s x = yPutC b f s x ∨ yMvC b f s x * (if t = 0 then -1 else 1) < 0 ∧ yPutC b f s x * (if t = 0 then -1 else 1) < 0 := fun x => by
    unfold yMvC yPutC
    by_cases g : x = s
    · rw [if_pos g, if_neg (fun q => hne (by rw [← q, g])), if_pos g]
      exact .inr ⟨hown, hc⟩
    · rw [if_neg g]
      by_cases g2 : x = f
      · rw [if_pos g2, if_pos g2]
        exact .inl rfl
      · rw [if_neg g2, if_neg g2, if_neg g]
        exact .inl rfl
  exact ⟨yStruck_cg hq fun x _ _ => key x, yStruck_cg hq fun x _ _ => (key x).imp Eq.symm And.symm⟩
/-- a man that leaves no line of a calm king -/
theorem yFreeMan {b : Int → Int} {f s t k : Int} (hf : 0 ≤ f ∧ f < 64) (hk : 0 ≤ k ∧ k < 64) (hown : b f * (if t = 0 then -1 else 1) < 0) (hcalm : ¬ yStruck b t k) (hline : ¬ (f % 8 = k % 8 ∨ f / 8 = k / 8 ∨ f % 8 - k % 8 = f / 8 - k / 8 ∨ f % 8 - k % 8 = -(f / 8 - k / 8))) : ¬ yStruck (yMvC b f s) t k := by
  intro h
  apply hcalm
  have hfo : (if t = 0 then (-1 : Int) else 1) = 1 ∨ (if t = 0 then (-1 : Int) else 1) = -1 := by split <;> omega
  unfold yStruck at *
  generalize (if t = 0 then (-1 : Int) else 1) = foe at *
  obtain ⟨d, d1, d2, h⟩ := h
  refine ⟨d, d1, d2, ?_⟩
  have hv : ∀ x, yMvC b f s x ≠ 0 → ¬ yMvC b f s x * foe < 0 → b x = yMvC b f s x := fun x h1 h2 => by
    unfold yMvC at *
    split at h2
    · exact absurd hown h2
    · rename_i g
      rw [if_neg g] at h1
      rw [if_neg g]
      split at h1
      · exact absurd rfl h1
      · rename_i g2
        rw [if_neg g2]
  rcases h with ⟨h1, h2⟩ | ⟨n, k1, k2, k3, k4, k5, k6⟩
  · refine .inl ⟨h1, ?_⟩
    rw [hv _ (by rw [h2]; omega) (by rw [h2]; rcases hfo with e | e <;> rw [e] <;> omega)]
    exact h2
  · have hb := hv _ k5 (by unfold yHits at k6; split at k6 <;> omega)
    refine .inr ⟨n, k1, k2, k3, fun j j1 j2 => ⟨(k4 j j1 j2).1, ?_⟩, by rw [hb]; exact ⟨k5, k6⟩⟩
    obtain ⟨g1, g2⟩ := k4 j j1 j2
    have hsq : ySq (k % 8) (k / 8) d j ≠ f := fun q => by
      obtain ⟨a1, a2⟩ := yLn_of g1
      rw [q] at a2
      obtain ⟨a3, a4⟩ := a2
      apply hline
      have tt := tS_in ⟨d1, d2⟩
      have e1 : tSC d = -1 ∨ tSC d = 0 ∨ tSC d = 1 := by omega
      have e2 : tSR d = -1 ∨ tSR d = 0 ∨ tSR d = 1 := by omega
      rcases e1 with e1 | e1 | e1 <;> rcases e2 with e2 | e2 | e2 <;> rw [e1] at a3 <;> rw [e2] at a4 <;> omega
    unfold yMvC at g2
    split at g2
    · rw [g2] at hown
      omega
    · first | exact g2 | (rw [if_neg hsq] at g2; exact g2)
/-- what keepsKing and the short way for free men tell -/
theorem ySafe_iff {b : Int → Int} {t f s k : Int} (hB : zOkC b) (ht : t = 0 ∨ t = 1) (hf : 0 ≤ f ∧ f < 64) (hs : 0 ≤ s ∧ s < 64) (hk : yKg b (if t = 0 then 6 else -6) k) (hm : yMay (yB b) (8 * t) f s) : (k ≠ -1 → (¬ yStruck (yMvC b f s) t (if f = k then s else k) ↔ ¬ yAtt (yPut (yB b) f s) (8 * t))) ∧ (k = -1 → ¬ yAtt (yPut (yB b) f s) (8 * t)) ∧ (k ≠ -1 → ¬ yStruck b t k → ¬ (f % 8 = k % 8 ∨ f / 8 = k / 8 ∨ f % 8 - k % 8 = f / 8 - k / 8 ∨ f % 8 - k % 8 = -(f / 8 - k / 8)) → ¬ yAtt (yPut (yB b) f s) (8 * t)) := by
  obtain ⟨m1, m2, -⟩ := hm
  have hne : f ≠ s := fun q => by subst q; exact m2 m1
  have c1 := (yEnc_o ht (hB f hf.1 hf.2)).mp m1
  have c2 : ¬ _ := fun q => m2 ((yEnc_o ht (hB s hs.1 hs.2)).mpr q)
  have hfo : (if t = 0 then (-1 : Int) else 1) = 1 ∨ (if t = 0 then (-1 : Int) else 1) = -1 := by split <;> omega
  have hown : b f * (if t = 0 then -1 else 1) < 0 := by
    rcases ht with e | e <;> subst e
    · rw [if_pos rfl] at c1 ⊢
      omega
    · rw [show (if (1 : Int) = 0 then (1 : Int) else -1) = -1 from rfl] at c1
      rw [show (if (1 : Int) = 0 then (-1 : Int) else 1) = 1 from rfl]
      omega
  have htk : ¬ b s * (if t = 0 then -1 else 1) < 0 := by
    rcases ht with e | e <;> subst e
    · rw [if_pos rfl] at c2 ⊢
      omega
    · rw [show (if (1 : Int) = 0 then (1 : Int) else -1) = -1 from rfl] at c2
      rw [show (if (1 : Int) = 0 then (-1 : Int) else 1) = 1 from rfl]
      omega
  have hv : (if t = 0 then (6 : Int) else -6) * (if t = 0 then -1 else 1) < 0 := by
    rcases ht with e | e <;> subst e <;> decide
  have hv2 : (if t = 0 then (6 : Int) else -6) = 6 ∨ (if t = 0 then (6 : Int) else -6) = -6 := by split <;> omega
  have hkg := yKg_put hf hs hne hfo hv hv2 hown htk hk
  have hatt := yAtt_iff (zOkC_put (t := s) hB hf) ht hkg
  rw [yPutC_enc hB hf] at hatt
  have A : k ≠ -1 → (¬ yStruck (yMvC b f s) t (if f = k then s else k) ↔ ¬ yAtt (yPut (yB b) f s) (8 * t)) := fun g => by
    have hkr : 0 ≤ k ∧ k < 64 := by
      rcases hk with ⟨q, -⟩ | ⟨q, q2, -⟩
      · exact absurd q g
      · exact ⟨q, q2⟩
    have hk1 : 0 ≤ (if f = k then s else k) ∧ (if f = k then s else k) < 64 := by split <;> omega
    rw [hatt, yMvC_put hf hne hk1 hown]
    exact ⟨fun q1 q2 => q1 q2.2, fun q1 q2 => q1 ⟨by omega, q2⟩⟩
  refine ⟨A, fun g => ?_, fun g h1 h2 => ?_⟩
  · rw [hatt, if_neg (by omega)]
    exact fun q => q.1 g
  · have hkr : 0 ≤ k ∧ k < 64 := by
      rcases hk with ⟨q, -⟩ | ⟨q, q2, -⟩
      · exact absurd q g
      · exact ⟨q, q2⟩
    refine (A g).mp ?_
    rw [if_neg (fun q => h2 (.inl (by rw [q])))]
    exact yFreeMan hf hkr hown h1 h2
