/-! pawnTargets, targetsOf of the class -/
def yPawnTo (b : Int → Int) (f own s : Int) : Prop := (0 ≤ f / 8 + own ∧ f / 8 + own < 8) ∧ ((s = f + 8 * own ∧ b s = 0) ∨ (s = f + 16 * own ∧ f / 8 + own = (if 0 < own then 2 else 5) ∧ b (f + 8 * own) = 0 ∧ b s = 0) ∨ (s = f + 8 * own - 1 ∧ 0 < f % 8 ∧ b s * own < 0) ∨ (s = f + 8 * own + 1 ∧ f % 8 < 7 ∧ b s * own < 0))
section ZR
variable {L a e : Nat} {m : Nat → Int → Int} (D : Nat)
theorem zk_81 (h : yBd L a e) (hB : zOkC (m e)) (f own : Int) (hf : 0 ≤ f ∧ f < 64) (ho : own = 1 ∨ own = -1) : ∃ x, zmD zP (D + 1) 81 [zr a, zi f, zi own] (zW L m) = some (some (zl x), zW L m) ∧ yRow x (fun s => yPawnTo (m e) f own s) := by
  have q7 := z_and7 hf
  rw [zen_81, zb_81_0, q7.1, q7.2, w32_of (z := f / 8 + own) (by omega) (by omega)]
  by_cases g1 : f / 8 + own < 0
  · rw [if_pos g1, zb_81_24]
    exact ⟨0, rfl, yRow_zero fun s hs q => by have := q.1; omega⟩
  rw [if_neg g1]
  by_cases g2 : f / 8 + own < 8
  · have hfr : (f / 8 + own) * 8 + f % 8 = f + 8 * own := by omega
    rw [if_pos g2, w32_of (z := (f / 8 + own) * 8) (by omega) (by omega), w32_of (z := (f / 8 + own) * 8 + f % 8) (by omega) (by omega), hfr]
    have hfr2 : 0 ≤ f + 8 * own ∧ f + 8 * own < 64 := by omega
    have fin : ∀ x o8, yRow x (fun s => ((s : Int) = f + 8 * own ∧ m e s = 0) ∨ ((s : Int) = f + 16 * own ∧ f / 8 + own = (if 0 < own then 2 else 5) ∧ m e (f + 8 * own) = 0 ∧ m e s = 0)) → ∃ x', zmE (zmD zP D) zc_81 (96, [some (zr a), some (zi f), some (zi own), some (zi (f % 8)), some (zi (f / 8 + own)), some (zl x), none, some (zi (f + 8 * own)), o8], [], zW L m) = some (some (zl x'), zW L m) ∧ yRow x' (fun s => yPawnTo (m e) f own s) := fun x o8 hx => by
      have fin2 : ∀ x', yRow x' (fun s => (((s : Int) = f + 8 * own ∧ m e s = 0) ∨ ((s : Int) = f + 16 * own ∧ f / 8 + own = (if 0 < own then 2 else 5) ∧ m e (f + 8 * own) = 0 ∧ m e s = 0)) ∨ ((s : Int) = f + 8 * own - 1 ∧ 0 < f % 8 ∧ m e s * own < 0)) → ∃ x9, zmE (zmD zP D) zc_81 (125, [some (zr a), some (zi f), some (zi own), some (zi (f % 8)), some (zi (f / 8 + own)), some (zl x'), none, some (zi (f + 8 * own)), o8], [], zW L m) = some (some (zl x9), zW L m) ∧ yRow x9 (fun s => yPawnTo (m e) f own s) := fun x' hx' => by
        have fin3 : ∀ x'', yRow x'' (fun s => ((((s : Int) = f + 8 * own ∧ m e s = 0) ∨ ((s : Int) = f + 16 * own ∧ f / 8 + own = (if 0 < own then 2 else 5) ∧ m e (f + 8 * own) = 0 ∧ m e s = 0)) ∨ ((s : Int) = f + 8 * own - 1 ∧ 0 < f % 8 ∧ m e s * own < 0)) ∨ ((s : Int) = f + 8 * own + 1 ∧ f % 8 < 7 ∧ m e s * own < 0)) → ∃ x3, zmE (zmD zP D) zc_81 (156, [some (zr a), some (zi f), some (zi own), some (zi (f % 8)), some (zi (f / 8 + own)), some (zl x''), none, some (zi (f + 8 * own)), o8], [], zW L m) = some (some (zl x3), zW L m) ∧ yRow x3 (fun s => yPawnTo (m e) f own s) := fun x'' hx'' => by
          rw [zb_81_156]
          refine ⟨x'', rfl, yRow_c hx'' fun s hs => ?_⟩
          try dsimp only
          rw [or_assoc, or_assoc]
          exact ⟨fun q => ⟨⟨by omega, g2⟩, q⟩, fun q => q.2⟩
        rw [zb_81_125]
        by_cases k1 : f % 8 < 7
        · have hv := hB (f + 8 * own + 1) (by omega) (by omega)
          have hvf : w32 (m e (f + 8 * own + 1) * own) = m e (f + 8 * own + 1) * own := by
            rcases ho with q | q <;> rw [q] at hv ⊢ <;> exact w32_of (by omega) (by omega)
          rw [if_pos k1, ybr h, zbs, w32_of (z := f + 8 * own + 1) (by omega) (by omega), yba h (by omega) (by omega), zbs, hvf]
          by_cases k2 : m e (f + 8 * own + 1) * own < 0
          · rw [if_pos k2]
            refine fin3 _ (yRow_add hx' ⟨by omega, by omega⟩ fun s hs => ⟨?_, ?_⟩)
            · rintro (q | ⟨q, -⟩)
              · exact .inl q
              · exact .inr q
            · rintro (q | q)
              · exact .inl q
              · exact .inr ⟨q, k1, by rw [q]; exact k2⟩
          · rw [if_neg k2]
            refine fin3 _ (yRow_c hx' fun s hs => ⟨.inl, fun q => q.elim id fun ⟨q1, _, q2⟩ => ?_⟩)
            rw [q1] at q2
            exact absurd q2 k2
        · rw [if_neg k1]
          exact fin3 _ (yRow_c hx' fun s hs => ⟨.inl, fun q => q.elim id fun ⟨q1, q3, q2⟩ => absurd q3 k1⟩)
      rw [zb_81_96]
      by_cases k1 : 0 < f % 8
      · have hv := hB (f + 8 * own - 1) (by omega) (by omega)
        have hvf : w32 (m e (f + 8 * own - 1) * own) = m e (f + 8 * own - 1) * own := by
          rcases ho with q | q <;> rw [q] at hv ⊢ <;> exact w32_of (by omega) (by omega)
        rw [if_pos k1, ybr h, zbs, w32_of (z := f + 8 * own - 1) (by omega) (by omega), yba h (by omega) (by omega), zbs, hvf]
        by_cases k2 : m e (f + 8 * own - 1) * own < 0
        · rw [if_pos k2]
          refine fin2 _ (yRow_add hx ⟨by omega, by omega⟩ fun s hs => ⟨?_, ?_⟩)
          · rintro (q | ⟨q, -⟩)
            · exact .inl q
            · exact .inr q
          · rintro (q | q)
            · exact .inl q
            · exact .inr ⟨q, k1, by rw [q]; exact k2⟩
        · rw [if_neg k2]
          refine fin2 _ (yRow_c hx fun s hs => ⟨.inl, fun q => q.elim id fun ⟨q1, _, q2⟩ => ?_⟩)
          rw [q1] at q2
          exact absurd q2 k2
      · rw [if_neg k1]
        exact fin2 _ (yRow_c hx fun s hs => ⟨.inl, fun q => q.elim id fun ⟨q1, q3, q2⟩ => absurd q3 k1⟩)
    rw [zb_81_38, ybr h, zbs, yba h (by omega) (by omega), zbs]
    by_cases k1 : m e (f + 8 * own) = 0
    · rw [if_pos k1, zb_81_54, w32_of (z := own * 8) (by omega) (by omega), w32_of (z := f + 8 * own + own * 8) (by omega) (by omega), zb_81_63]
      have e74 : ∀ st : Int, (if 0 < own then zmE (zmD zP D) zc_81 (74, [some (zr a), some (zi f), some (zi own), some (zi (f % 8)), some (zi (f / 8 + own)), some (zl (z_shll 1 (f + 8 * own))), none, some (zi (f + 8 * own)), some (zi (f + 8 * own + own * 8))], [zi 2, zi (f / 8 + own)], zW L m) else zmE (zmD zP D) zc_81 (74, [some (zr a), some (zi f), some (zi own), some (zi (f % 8)), some (zi (f / 8 + own)), some (zl (z_shll 1 (f + 8 * own))), none, some (zi (f + 8 * own)), some (zi (f + 8 * own + own * 8))], [zi 5, zi (f / 8 + own)], zW L m)) = zmE (zmD zP D) zc_81 (74, [some (zr a), some (zi f), some (zi own), some (zi (f % 8)), some (zi (f / 8 + own)), some (zl (z_shll 1 (f + 8 * own))), none, some (zi (f + 8 * own)), some (zi (f + 8 * own + own * 8))], [zi (if 0 < own then 2 else 5), zi (f / 8 + own)], zW L m) := fun _ => by
        split <;> rfl
      rw [e74 0, zb_81_74]
      have h1 : yRow (z_shll 1 (f + 8 * own)) (fun s => (s : Int) = f + 8 * own ∧ m e s = 0) := yRow_one hfr2 fun s hs => by
        exact ⟨fun q => q.1, fun q => ⟨q, by rw [q]; exact k1⟩⟩
      by_cases k2 : f / 8 + own = (if 0 < own then 2 else 5)
      · have hr2 : 0 ≤ f + 8 * own + own * 8 ∧ f + 8 * own + own * 8 < 64 := by
          rcases ho with q | q <;> subst q
          · rw [if_pos (by decide)] at k2
            omega
          · rw [if_neg (by decide)] at k2
            omega
        rw [if_pos k2, ybr h, zbs, yba h hr2.1 hr2.2, zbs]
        by_cases k3 : m e (f + 8 * own + own * 8) = 0
        · rw [if_pos k3]
          refine fin _ _ (yRow_add h1 hr2 fun s hs => ⟨?_, ?_⟩)
          · rintro (q | ⟨q, -⟩)
            · exact .inl q
            · exact .inr (by omega)
          · rintro (q | q)
            · exact .inl q
            · exact .inr ⟨by omega, k2, k1, by rw [q]; exact k3⟩
        · rw [if_neg k3]
          refine fin _ _ (yRow_c h1 fun s hs => ⟨.inl, fun q => q.elim id fun ⟨q1, _, _, q2⟩ => ?_⟩)
          rw [show (s : Int) = f + 8 * own + own * 8 by omega] at q2
          exact absurd q2 k3
      · rw [if_neg k2]
        exact fin _ _ (yRow_c h1 fun s hs => ⟨.inl, fun q => q.elim id fun ⟨_, q2, _⟩ => absurd q2 k2⟩)
    · rw [if_neg k1]
      refine fin _ _ (yRow_zero fun s hs => ?_)
      rintro (⟨q1, q2⟩ | ⟨_, _, q2, _⟩)
      · rw [q1] at q2
        exact absurd q2 k1
      · exact absurd q2 k1
  · rw [if_neg g2, zb_81_24]
    exact ⟨0, rfl, yRow_zero fun s hs q => by have := q.1; omega⟩
end ZR
