/-! lineTargets of the class -/
def yLineTo (b : Int → Int) (c r own d n s : Int) : Prop := ∃ k, 1 ≤ k ∧ k ≤ n ∧ yIn (c + k * tSC d) (r + k * tSR d) ∧ s = ySq c r d k ∧ b s * own ≤ 0 ∧ ∀ j, 1 ≤ j → j < k → yIn (c + j * tSC d) (r + j * tSR d) ∧ b (ySq c r d j) = 0
theorem yLineTo_stop {b : Int → Int} {c r own d n k s : Int} (h : ¬ (yIn (c + k * tSC d) (r + k * tSR d) ∧ b (ySq c r d k) = 0)) (hk : 1 ≤ k) (hn : k ≤ n) : yLineTo b c r own d n s ↔ yLineTo b c r own d k s := by
  constructor
  · rintro ⟨k', h1, h2, h3, h4, h5, h6⟩
    by_cases g : k' ≤ k
    · exact ⟨k', h1, g, h3, h4, h5, h6⟩
    · exact absurd (h6 k hk (by omega)) h
  · rintro ⟨k', h1, h2, h3⟩
    exact ⟨k', h1, by omega, h3⟩
theorem yLineTo_less {b : Int → Int} {c r own d k s : Int} (h : ¬ (yIn (c + k * tSC d) (r + k * tSR d) ∧ b (ySq c r d k) * own ≤ 0)) : yLineTo b c r own d k s ↔ yLineTo b c r own d (k - 1) s := by
  constructor
  · rintro ⟨k', h1, h2, h3, h4, h5, h6⟩
    by_cases g : k' = k
    · subst g
      rw [h4] at h5
      exact absurd ⟨h3, h5⟩ h
    · exact ⟨k', h1, by omega, h3, h4, h5, h6⟩
  · rintro ⟨k', h1, h2, h3⟩
    exact ⟨k', h1, by omega, h3⟩
theorem yLineTo_more {b : Int → Int} {c r own d k s : Int} (hk : 1 ≤ k) (h : yIn (c + k * tSC d) (r + k * tSR d) ∧ b (ySq c r d k) * own ≤ 0) (h6 : ∀ j, 1 ≤ j → j < k → yIn (c + j * tSC d) (r + j * tSR d) ∧ b (ySq c r d j) = 0) : yLineTo b c r own d k s ↔ yLineTo b c r own d (k - 1) s ∨ s = ySq c r d k := by
  constructor
  · rintro ⟨k', h1, h2, h3, h4, h5, h6⟩
    by_cases g : k' = k
    · subst g
      exact .inr h4
    · exact .inl ⟨k', h1, by omega, h3, h4, h5, h6⟩
  · rintro (⟨k', h1, h2, h3⟩ | q)
    · exact ⟨k', h1, by omega, h3⟩
    · exact ⟨k, hk, Int.le_refl _, h.1, q, by rw [q]; exact h.2, h6⟩
section ZR
variable {L : Nat} {m : Nat → Int → Int} {k : Int}
theorem yt0 (hT : yTab m) (h : 0 ≤ k) (h2 : k < 8) : zAI (zW L m) 100 (zXB + 0) k = some (tLC k) := (zw_ai (congrArg Prod.fst (zhx_0)) h (by rw [zhx_0]; exact h2)).trans (by rw [hT.1])
theorem yt1 (hT : yTab m) (h : 0 ≤ k) (h2 : k < 8) : zAI (zW L m) 100 (zXB + 1) k = some (tLR k) := (zw_ai (congrArg Prod.fst (zhx_1)) h (by rw [zhx_1]; exact h2)).trans (by rw [hT.2.1])
theorem yt2 (hT : yTab m) (h : 0 ≤ k) (h2 : k < 8) : zAI (zW L m) 100 (zXB + 2) k = some (tSC k) := (zw_ai (congrArg Prod.fst (zhx_2)) h (by rw [zhx_2]; exact h2)).trans (by rw [hT.2.2.1])
theorem yt3 (hT : yTab m) (h : 0 ≤ k) (h2 : k < 8) : zAI (zW L m) 100 (zXB + 3) k = some (tSR k) := (zw_ai (congrArg Prod.fst (zhx_3)) h (by rw [zhx_3]; exact h2)).trans (by rw [hT.2.2.2.1])
theorem yt4 (hT : yTab m) (h : 0 ≤ k) (h2 : k < 11) : zAI (zW L m) 100 (zXB + 4) k = some (tFm k) := (zw_ai (congrArg Prod.fst (zhx_4)) h (by rw [zhx_4]; exact h2)).trans (by rw [hT.2.2.2.2])
end ZR
section ZR
variable {L a e : Nat} {m : Nat → Int → Int} (D : Nat)
theorem zk_83 (h : yBd L a e) (hT : yTab m) (hB : zOkC (m e)) (f own ways n : Int) (hf : 0 ≤ f ∧ f < 64) (ho : own = 1 ∨ own = -1) (hn : 1 ≤ n ∧ n ≤ 7) : ∃ x, zmD zP (D + 1) 83 [zr a, zi f, zi own, zi ways, zi n] (zW L m) = some (some (zl x), zW L m) ∧ yRow x (fun s => ∃ d, 0 ≤ d ∧ d < 8 ∧ z_and ways (if d % 2 = 0 then 1 else 2) ≠ 0 ∧ yLineTo (m e) (f % 8) (f / 8) own d n s) := by
  rw [zen_83, zb_83_0]
  have hc : 0 ≤ f % 8 ∧ f % 8 < 8 := by omega
  have hr : 0 ≤ f / 8 ∧ f / 8 < 8 := by omega
  have q7 := z_and7 hf
  generalize f % 8 = c at *
  generalize f / 8 = r at *
  have inner : ∀ d : Int, 0 ≤ d → d < 8 → ∀ P : Nat → Prop, ∀ j k : Nat, 1 ≤ k → (k : Int) + j = n + 1 → (∀ i, 1 ≤ i → i < (k : Int) → yIn (c + i * tSC d) (r + i * tSR d) ∧ m e (ySq c r d i) = 0) → ∀ x o9 o10, yRow x (fun s => P s ∨ yLineTo (m e) c r own d (k - 1) s) → ∃ x' o8' o9' o10', zmE (zmD zP D) zc_83 (36, [some (zr a), some (zi f), some (zi own), some (zi ways), some (zi n), some (zl x), none, some (zi d), some (zi k), o9, o10], [], zW L m) = zmE (zmD zP D) zc_83 (159, [some (zr a), some (zi f), some (zi own), some (zi ways), some (zi n), some (zl x'), none, some (zi d), o8', o9', o10'], [], zW L m) ∧ yRow x' (fun s => P s ∨ yLineTo (m e) c r own d n s) := by
    intro d hd1 hd2 P j
    obtain ⟨t1, t2, t3, t4, -, -, -, -, t5⟩ := tS_in (d := d) ⟨hd1, hd2⟩
    induction j with
    | zero =>
      intro k hk hj hall x o9 o10 hx
      rw [zb_83_36, if_pos (by omega)]
      refine ⟨x, _, _, _, rfl, ?_⟩
      rw [show n = (k : Int) - 1 by omega]
      exact hx
    | succ j ih =>
      intro k hk hj hall x o9 o10 hx
      have p1 : -7 ≤ (k : Int) * tSC d ∧ (k : Int) * tSC d ≤ 7 := by
        have : tSC d = -1 ∨ tSC d = 0 ∨ tSC d = 1 := by omega
        rcases this with q | q | q <;> rw [q] <;> omega
      have p2 : -7 ≤ (k : Int) * tSR d ∧ (k : Int) * tSR d ≤ 7 := by
        have : tSR d = -1 ∨ tSR d = 0 ∨ tSR d = 1 := by omega
        rcases this with q | q | q <;> rw [q] <;> omega
      have hsq : (r + k * tSR d) * 8 + (c + k * tSC d) = ySq c r d k := rfl
      have skip : ¬ (yIn (c + k * tSC d) (r + k * tSR d) ∧ m e (ySq c r d k) * own ≤ 0) → ¬ (yIn (c + k * tSC d) (r + k * tSR d) ∧ m e (ySq c r d k) = 0) → yRow x (fun s => P s ∨ yLineTo (m e) c r own d n s) := fun g g2 => yRow_c hx fun s hs => by
        try dsimp only
        rw [yLineTo_stop (n := n) g2 (by omega) (by omega), yLineTo_less g]
      simp (disch := omega) only [zb_83_36, if_neg, yt2 hT, yt3 hT, zbs, q7.1, q7.2, w32_of, zb_83_59, zb_83_74]
      by_cases g1 : yIn (c + k * tSC d) (r + k * tSR d)
      · obtain ⟨i1, i2, i3, i4⟩ := g1
        have hv := hB (ySq c r d k) (by rw [← hsq]; omega) (by rw [← hsq]; omega)
        have hvf : w32 (m e (ySq c r d k) * own) = m e (ySq c r d k) * own := by
          rcases ho with q | q <;> rw [q] <;> exact w32_of (by omega) (by omega)
        rw [if_neg (by omega), if_pos (by omega), if_neg (by omega), if_pos (by omega), ybr h, zbs, yba h (by omega) (by omega), zbs, hsq, hvf]
        by_cases g5 : 0 < m e (ySq c r d k) * own
        · rw [if_pos g5]
          refine ⟨x, _, _, _, rfl, skip (fun q => by omega) (fun q => by rw [q.2] at g5; omega)⟩
        · rw [if_neg g5, zb_83_134, ybr h, zbs, w32_of (z := (r + k * tSR d) * 8) (by omega) (by omega), w32_of (z := (r + k * tSR d) * 8 + (c + k * tSC d)) (by omega) (by omega), yba h (by omega) (by omega), zbs, hsq]
          have hy : yRow (z_orl x (z_shll 1 (ySq c r d k))) (fun s => P s ∨ yLineTo (m e) c r own d k s) := yRow_add hx (by rw [← hsq]; omega) fun s hs => by
            rw [yLineTo_more (by omega) ⟨⟨i1, i2, i3, i4⟩, by omega⟩ hall, or_assoc]
          by_cases g6 : m e (ySq c r d k) = 0
          · rw [if_pos g6, w32_of (by omega) (by omega)]
            have e1 := ih (k + 1) (by omega) (by omega) (fun i h1 h2 => by
              by_cases hi : i = k
              · rw [hi]
                exact ⟨⟨i1, i2, i3, i4⟩, g6⟩
              · exact hall i h1 (by omega)) (z_orl x (z_shll 1 (ySq c r d k))) (some (zi (c + k * tSC d))) (some (zi (r + k * tSR d))) (by
              rw [show ((k + 1 : Nat) : Int) - 1 = k by omega]
              exact hy)
            exact e1
          · rw [if_neg g6]
            refine ⟨_, _, _, _, rfl, yRow_c hy fun s hs => ?_⟩
            try dsimp only
            rw [yLineTo_stop (n := n) (k := k) (fun q => g6 q.2) (by omega) (by omega)]
      · have hno := skip (fun q => g1 q.1) (fun q => g1 q.1)
        unfold yIn at g1
        by_cases k1 : c + k * tSC d < 0
        · rw [if_pos k1]
          exact ⟨x, _, _, _, rfl, hno⟩
        rw [if_neg k1]
        by_cases k2 : c + k * tSC d < 8
        · rw [if_pos k2]
          by_cases k3 : r + k * tSR d < 0
          · rw [if_pos k3]
            exact ⟨x, _, _, _, rfl, hno⟩
          · rw [if_neg k3, if_neg (by omega)]
            exact ⟨x, _, _, _, rfl, hno⟩
        · rw [if_neg k2]
          exact ⟨x, _, _, _, rfl, hno⟩
  have outer : ∀ k i : Nat, i + k = 8 → ∀ x o8 o9 o10, yRow x (fun s => ∃ d : Int, 0 ≤ d ∧ d < (i : Int) ∧ z_and ways (if d % 2 = 0 then 1 else 2) ≠ 0 ∧ yLineTo (m e) c r own d n s) → ∃ x', zmE (zmD zP D) zc_83 (6, [some (zr a), some (zi f), some (zi own), some (zi ways), some (zi n), some (zl x), none, some (zi i), o8, o9, o10], [], zW L m) = some (some (zl x'), zW L m) ∧ yRow x' (fun s => ∃ d, 0 ≤ d ∧ d < 8 ∧ z_and ways (if d % 2 = 0 then 1 else 2) ≠ 0 ∧ yLineTo (m e) c r own d n s) := by
    intro k
    induction k with
    | zero =>
      intro i hi x o8 o9 o10 hx
      rw [zb_83_6, if_neg (by omega)]
      refine ⟨x, rfl, ?_⟩
      rw [show (8 : Int) = (i : Int) by omega]
      exact hx
    | succ k ih =>
      intro i hi x o8 o9 o10 hx
      have ihn := ih (i + 1) (by omega)
      rw [Int.natCast_succ] at ihn
      obtain ⟨-, -, -, -, -, -, -, -, t5⟩ := tS_in (d := (i : Int)) ⟨by omega, by omega⟩
      have e0 : zmE (zmD zP D) zc_83 (6, [some (zr a), some (zi f), some (zi own), some (zi ways), some (zi n), some (zl x), none, some (zi i), o8, o9, o10], [], zW L m) = zmE (zmD zP D) zc_83 (26, [some (zr a), some (zi f), some (zi own), some (zi ways), some (zi n), some (zl x), none, some (zi i), o8, o9, o10], [zi (if (i : Int) % 2 = 0 then 1 else 2), zi ways], zW L m) := by
        rw [zb_83_6, if_pos (by omega), t5]
        split <;> rfl
      rw [e0, zb_83_26]
      by_cases g : z_and ways (if (i : Int) % 2 = 0 then 1 else 2) = 0
      · rw [if_pos g, zb_83_159, w32_of (by omega) (by omega)]
        refine ihn x _ _ _ (yRow_c hx fun s hs => ⟨fun ⟨d, h1, h2, h3⟩ => ⟨d, h1, by omega, h3⟩, fun ⟨d, h1, h2, h3⟩ => ?_⟩)
        by_cases hd : d = i
        · rw [hd] at h3
          exact absurd g h3.1
        · exact ⟨d, h1, by omega, h3⟩
      · rw [if_neg g]
        obtain ⟨x', o8', o9', o10', e1, e2⟩ := inner i (by omega) (by omega) (fun s => ∃ d : Int, 0 ≤ d ∧ d < (i : Int) ∧ z_and ways (if d % 2 = 0 then 1 else 2) ≠ 0 ∧ yLineTo (m e) c r own d n s) n.toNat 1 (by omega) (by omega) (fun q h1 h2 => by omega) x o9 o10 (yRow_c hx fun s hs => ⟨.inl, fun q => q.elim id fun ⟨k', h1, h2, _⟩ => by omega⟩)
        have e3 : ((1 : Nat) : Int) = 1 := rfl
        rw [e3] at e1
        rw [e1, zb_83_159, w32_of (by omega) (by omega)]
        refine ihn x' _ _ _ (yRow_c e2 fun s hs => ⟨?_, ?_⟩)
        · rintro (⟨d, h1, h2, h3⟩ | q)
          · exact ⟨d, h1, by omega, h3⟩
          · exact ⟨i, by omega, by omega, g, q⟩
        · rintro ⟨d, h1, h2, h3⟩
          by_cases hd : d = i
          · rw [hd] at h3
            exact .inr h3.2
          · exact .inl ⟨d, h1, by omega, h3⟩
  exact outer 8 0 rfl 0 none none none (yRow_zero fun s hs ⟨d, h1, h2, _⟩ => by omega)
end ZR
