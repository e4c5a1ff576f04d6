/-! leapTargets of the class -/
/-- a row of 64 bits that tells a property of squares -/
def yRow (x : Int) (P : Nat → Prop) : Prop := (∃ y : Int64, x = y.toInt) ∧ ∀ s : Nat, s < 64 → (yBit x s = true ↔ P s)
theorem yRow_zero {P : Nat → Prop} (h : ∀ s : Nat, s < 64 → ¬ P s) : yRow 0 P := ⟨⟨0, rfl⟩, fun s hs => by
  rw [yBit_zero]
  exact ⟨fun q => absurd q (by decide), fun q => absurd q (h s hs)⟩⟩
theorem yRow_c {x : Int} {P Q : Nat → Prop} (h : yRow x P) (h2 : ∀ s : Nat, s < 64 → (P s ↔ Q s)) : yRow x Q := ⟨h.1, fun s hs => (h.2 s hs).trans (h2 s hs)⟩
theorem yRow_add {x q : Int} {P Q : Nat → Prop} (h : yRow x P) (hq : 0 ≤ q ∧ q < 64) (h2 : ∀ s : Nat, s < 64 → (Q s ↔ P s ∨ (s : Int) = q)) : yRow (z_orl x (z_shll 1 q)) Q := ⟨⟨_, rfl⟩, fun s hs => by
  have e := yBit_shl q.toNat (by omega) s hs
  rw [show ((q.toNat : Nat) : Int) = q by omega] at e
  rw [yBit_or, e, Bool.or_eq_true, beq_iff_eq, h2 s hs, h.2 s hs]
  exact or_congr Iff.rfl (by omega)⟩
theorem yRow_one {q : Int} {Q : Nat → Prop} (hq : 0 ≤ q ∧ q < 64) (h2 : ∀ s : Nat, s < 64 → (Q s ↔ (s : Int) = q)) : yRow (z_shll 1 q) Q := ⟨⟨_, rfl⟩, fun s hs => by
  have e := yBit_shl q.toNat (by omega) s hs
  rw [show ((q.toNat : Nat) : Int) = q by omega] at e
  rw [e, beq_iff_eq, h2 s hs]
  omega⟩
def yLeapTo (b : Int → Int) (c r own d s : Int) : Prop := yIn (c + tLC d) (r + tLR d) ∧ s = (r + tLR d) * 8 + (c + tLC d) ∧ b s * own ≤ 0
section ZR
variable {L a e : Nat} {m : Nat → Int → Int} (D : Nat)
theorem zk_82 (h : yBd L a e) (hT : yTab m) (hB : zOkC (m e)) (f own : Int) (hf : 0 ≤ f ∧ f < 64) (ho : own = 1 ∨ own = -1) : ∃ x, zmD zP (D + 1) 82 [zr a, zi f, zi own] (zW L m) = some (some (zl x), zW L m) ∧ yRow x (fun s => ∃ d, 0 ≤ d ∧ d < 8 ∧ yLeapTo (m e) (f % 8) (f / 8) own d s) := by
  rw [zen_82, zb_82_0]
  have hc : 0 ≤ f % 8 ∧ f % 8 < 8 := by omega
  have hr : 0 ≤ f / 8 ∧ f / 8 < 8 := by omega
  have q7 := z_and7 hf
  generalize f % 8 = c at *
  generalize f / 8 = r at *
  suffices q : ∀ k i : Nat, i + k = 8 → ∀ x o6 o7, yRow x (fun s => ∃ d : Int, 0 ≤ d ∧ d < (i : Int) ∧ yLeapTo (m e) c r own d s) → ∃ x', zmE (zmD zP D) zc_82 (5, [some (zr a), some (zi f), some (zi own), some (zl x), none, some (zi i), o6, o7], [], zW L m) = some (some (zl x'), zW L m) ∧ yRow x' (fun s => ∃ d, 0 ≤ d ∧ d < 8 ∧ yLeapTo (m e) c r own d s) by
    refine q 8 0 rfl 0 none none (yRow_zero fun s hs => ?_)
    rintro ⟨d, h1, h2, -⟩
    rw [show ((0 : Nat) : Int) = 0 from rfl] at h2
    omega
  intro k
  induction k with
  | zero =>
    intro i hi x o6 o7 hx
    rw [zb_82_5, if_neg (by omega)]
    refine ⟨x, rfl, ?_⟩
    rw [show (8 : Int) = (i : Int) by omega]
    exact hx
  | succ k ih =>
    intro i hi x o6 o7 hx
    obtain ⟨-, -, -, -, t1, t2, t3, t4, -⟩ := tS_in (d := (i : Int)) ⟨by omega, by omega⟩
    have ihn := ih (i + 1) (by omega)
    rw [Int.natCast_succ] at ihn
    have skip : (∀ s, ¬ yLeapTo (m e) c r own i s) → ∀ x6 x7, ∃ x', zmE (zmD zP D) zc_82 (92, [some (zr a), some (zi f), some (zi own), some (zl x), none, some (zi i), some (zi x6), some (zi x7)], [], zW L m) = some (some (zl x'), zW L m) ∧ yRow x' (fun s => ∃ d, 0 ≤ d ∧ d < 8 ∧ yLeapTo (m e) c r own d s) := fun hno x6 x7 => by
      rw [zb_82_92, w32_of (by omega) (by omega)]
      refine ihn x _ _ (yRow_c hx fun s hs => ⟨fun ⟨d, h1, h2, h3⟩ => ⟨d, h1, by omega, h3⟩, fun ⟨d, h1, h2, h3⟩ => ?_⟩)
      by_cases hd : d = i
      · rw [hd] at h3
        exact absurd h3 (hno s)
      · exact ⟨d, h1, by omega, h3⟩
    rw [zb_82_5, if_pos (by omega), zw_ai (congrArg Prod.fst (zhx_0)) (by omega) (by rw [zhx_0]; show (i : Int) < 8; omega), zbs, hT.1, zw_ai (congrArg Prod.fst (zhx_1)) (by omega) (by rw [zhx_1]; show (i : Int) < 8; omega), zbs, hT.2.1, q7.1, q7.2, w32_of (z := c + _) (by omega) (by omega), w32_of (z := r + _) (by omega) (by omega)]
    by_cases g1 : c + tLC i < 0
    · rw [if_pos g1]
      exact skip (fun s q => by have := q.1; unfold yIn at this; omega) _ _
    rw [if_neg g1]
    by_cases g2 : c + tLC i < 8
    · rw [if_pos g2]
      by_cases g3 : r + tLR i < 0
      · rw [if_pos g3]
        exact skip (fun s q => by have := q.1; unfold yIn at this; omega) _ _
      rw [if_neg g3]
      by_cases g4 : r + tLR i < 8
      · rw [if_pos g4, ybr h, zbs, w32_of (z := (r + tLR i) * 8) (by omega) (by omega), w32_of (z := (r + tLR i) * 8 + _) (by omega) (by omega), yba h (by omega) (by omega), zbs]
        have hv := hB ((r + tLR i) * 8 + (c + tLC i)) (by omega) (by omega)
        have hw : w32 (m e ((r + tLR i) * 8 + (c + tLC i)) * own) = m e ((r + tLR i) * 8 + (c + tLC i)) * own := by
          rcases ho with q | q <;> rw [q] <;> exact w32_of (by omega) (by omega)
        rw [hw]
        by_cases g5 : 0 < m e ((r + tLR i) * 8 + (c + tLC i)) * own
        · rw [if_pos g5]
          refine skip (fun s q => ?_) _ _
          obtain ⟨-, q2, q3⟩ := q
          rw [q2] at q3
          omega
        · rw [if_neg g5, zb_82_92, w32_of (by omega) (by omega)]
          refine ihn _ _ _ (yRow_add hx ⟨by omega, by omega⟩ fun s hs => ⟨?_, ?_⟩)
          · rintro ⟨d, h1, h2, h3⟩
            by_cases hd : d = i
            · rw [hd] at h3
              exact .inr h3.2.1
            · exact .inl ⟨d, h1, by omega, h3⟩
          · rintro (⟨d, h1, h2, h3⟩ | q)
            · exact ⟨d, h1, by omega, h3⟩
            · exact ⟨i, by omega, by omega, ⟨by omega, g2, by omega, g4⟩, q, by rw [q]; omega⟩
      · rw [if_neg g4]
        exact skip (fun s q => by have := q.1; unfold yIn at this; omega) _ _
    · rw [if_neg g2]
      exact skip (fun s q => by have := q.1; unfold yIn at this; omega) _ _
end ZR
