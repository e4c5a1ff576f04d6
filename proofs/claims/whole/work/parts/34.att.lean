/-! attacked: class and reference -/
theorem yStruck_iff {b : Int → Int} {q t : Int} (hB : zOkC b) (hq : 0 ≤ q ∧ q < 64) (ht : t = 0 ∨ t = 1) : yStruck b t q ↔ ∃ s, 0 ≤ s ∧ s < 64 ∧ zcol (yB b s) = 8 - 8 * t ∧ yReach (yB b) s q := by
  constructor
  · rintro ⟨d, h1, h2, h3 | h3⟩
    · exact yLeap_fwd hB hq ht ⟨h1, h2⟩ h3
    · exact yRay_fwd hB hq ht ⟨h1, h2⟩ h3
  · rintro ⟨s, h1, h2, h3, h4⟩
    exact yStruck_bwd hB hq ht ⟨h1, h2⟩ h3 h4
theorem zOkB_of {b : Int → Int} (h : zOkC b) : zOkB (yB b) := fun s h1 h2 => by
  have := h s h1 h2
  unfold yB yEnc
  split <;> omega
/-- where the king of a side stands, by the class's two numbers: his place, or -1 for none -/
def yKg (b : Int → Int) (v k : Int) : Prop := (k = -1 ∧ ∀ s, 0 ≤ s → s < 64 → b s ≠ v) ∨ (0 ≤ k ∧ k < 64 ∧ b k = v ∧ ∀ s, 0 ≤ s → s < 64 → b s = v → s = k)
theorem yLast_no {b : Int → Int} {k : Int} : ∀ n : Nat, (∀ s : Int, 0 ≤ s → s < n → b s ≠ k) → yLast b k n = -1
  | 0, _ => rfl
  | n + 1, h => by
    unfold yLast
    rw [if_neg (h n (by omega) (by omega))]
    exact yLast_no n fun s h1 h2 => h s h1 (by omega)
theorem yLast_one {b : Int → Int} {k p : Int} (hp : b p = k) (h0 : 0 ≤ p) : ∀ n : Nat, p < n → (∀ s : Int, 0 ≤ s → s < n → b s = k → s = p) → yLast b k n = p
  | 0, h, _ => by omega
  | n + 1, h, hu => by
    unfold yLast
    by_cases g : b n = k
    · rw [if_pos g]
      exact hu n (by omega) (by omega) g
    · rw [if_neg g]
      by_cases e : p = n
      · rw [e] at hp
        exact absurd hp g
      · exact yLast_one hp h0 n (by omega) fun s h1 h2 => hu s h1 (by omega)
theorem yEnc_king {v t : Int} (ht : t = 0 ∨ t = 1) (hv : -6 ≤ v ∧ v ≤ 6) : yEnc v = 8 * t + 6 ↔ v = if t = 0 then 6 else -6 := by
  unfold yEnc
  rcases ht with e | e <;> subst e
  · rw [if_pos rfl]
    split <;> omega
  · rw [show (if (1 : Int) = 0 then (6 : Int) else -6) = -6 from rfl]
    split <;> omega
theorem yKg_last {b : Int → Int} {t k : Int} (hB : zOkC b) (ht : t = 0 ∨ t = 1) (h : yKg b (if t = 0 then 6 else -6) k) : yLast (yB b) (8 * t + 6) 64 = k := by
  rcases h with ⟨rfl, h⟩ | ⟨h1, h2, h3, h4⟩
  · exact yLast_no (b := yB b) 64 fun s h1 h2 => fun q => h s h1 h2 ((yEnc_king ht (hB s h1 h2)).mp q)
  · exact yLast_one (b := yB b) (p := k) ((yEnc_king ht (hB k h1 h2)).mpr h3) h1 64 h2 fun s h5 h6 h7 => h4 s h5 h6 ((yEnc_king ht (hB s h5 h6)).mp h7)
theorem yAtt_iff {b : Int → Int} {t k : Int} (hB : zOkC b) (ht : t = 0 ∨ t = 1) (h : yKg b (if t = 0 then 6 else -6) k) : yAtt (yB b) (8 * t) ↔ k ≠ -1 ∧ yStruck b t k := by
  unfold yAtt
  rw [yKg_last hB ht h]
  constructor
  · rintro ⟨h1, h2⟩
    refine ⟨h1, (yStruck_iff hB ?_ ht).mpr h2⟩
    rcases h with ⟨h, -⟩ | ⟨h, h', -⟩
    · exact absurd h h1
    · exact ⟨h, h'⟩
  · rintro ⟨h1, h2⟩
    refine ⟨h1, (yStruck_iff hB ?_ ht).mp h2⟩
    rcases h with ⟨h, -⟩ | ⟨h, h', -⟩
    · exact absurd h h1
    · exact ⟨h, h'⟩
