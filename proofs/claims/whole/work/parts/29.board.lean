/-! boards of the class: a the object, e its men -/
def yBd (L a e : Nat) : Prop := zSH L a = (2, 0) ∧ zMR a 0 = some e ∧ zSH L e = (100, 64) ∧ a < 118 ∧ e < 118 ∧ a ≠ e
section ZB
variable {L a e : Nat} {m : Nat → Int → Int} {k z : Int}
theorem ybr (h : yBd L a e) : zGR (zW L m) a 2 0 = some e := (zw_gr (congrArg Prod.fst h.1)).trans h.2.1
theorem ybi (h : yBd L a e) : zGI (zW L m) a 2 k = some (m a k) := zw_gi (congrArg Prod.fst h.1)
theorem ybp (h : yBd L a e) : zPI (zW L m) a 2 k z = some (zW L (zup m a k z)) := zw_pi (congrArg Prod.fst h.1) h.2.2.2.1
theorem yba (h : yBd L a e) (h1 : 0 ≤ k) (h2 : k < 64) : zAI (zW L m) 100 e k = some (m e k) := zw_ai (congrArg Prod.fst h.2.2.1) h1 (by rw [h.2.2.1]; exact h2)
theorem ybs (h : yBd L a e) (h1 : 0 ≤ k) (h2 : k < 64) : zSI (zW L m) 100 e k z = some (zW L (zup m e k z)) := zw_si (congrArg Prod.fst h.2.2.1) h1 (by rw [h.2.2.1]; exact h2) h.2.2.2.2.1
theorem ybc {K : zmK} {y : Nat} {A : List zmV} (h : yBd L a e) : zcv K y 2 a A (zW L m) = K y A (zW L m) := zw_cv (congrArg Prod.fst h.1)
end ZB
def tLC (d : Int) : Int := [1, 2, 2, 1, -1, -2, -2, -1].getD d.toNat 0
def tLR (d : Int) : Int := [2, 1, -1, -2, -2, -1, 1, 2].getD d.toNat 0
def tSC (d : Int) : Int := [1, 1, 0, -1, -1, -1, 0, 1].getD d.toNat 0
def tSR (d : Int) : Int := [0, 1, 1, 1, 0, -1, -1, -1].getD d.toNat 0
def tFm (d : Int) : Int := [1, 2, 17, 18, 3, 7, 19, 11, 23, 27, 15].getD d.toNat 0
/-- the tables as they are -/
def yTab (m : Nat → Int → Int) : Prop := (∀ i, m (zXB + 0) i = tLC i) ∧ (∀ i, m (zXB + 1) i = tLR i) ∧ (∀ i, m (zXB + 2) i = tSC i) ∧ (∀ i, m (zXB + 3) i = tSR i) ∧ (∀ i, m (zXB + 4) i = tFm i)
theorem yd8 {d : Int} (h : 0 ≤ d ∧ d < 8) : d = 0 ∨ d = 1 ∨ d = 2 ∨ d = 3 ∨ d = 4 ∨ d = 5 ∨ d = 6 ∨ d = 7 := by omega
theorem tS_in {d : Int} (h : 0 ≤ d ∧ d < 8) : -1 ≤ tSC d ∧ tSC d ≤ 1 ∧ -1 ≤ tSR d ∧ tSR d ≤ 1 ∧ -2 ≤ tLC d ∧ tLC d ≤ 2 ∧ -2 ≤ tLR d ∧ tLR d ≤ 2 ∧ z_and d 1 = d % 2 := by
  rcases yd8 h with h | h | h | h | h | h | h | h <;> subst h <;> decide
def zOkC (b : Int → Int) : Prop := ∀ s, 0 ≤ s → s < 64 → -6 ≤ b s ∧ b s ≤ 6
def yIn (c r : Int) : Prop := 0 ≤ c ∧ c < 8 ∧ 0 ≤ r ∧ r < 8
/-- a man at k steps that strikes -/
def yHits (v d foe k : Int) : Prop := v * foe = 5 ∨ v * foe = (if d % 2 = 0 then 4 else 3) ∨ k = 1 ∧ (v * foe = 6 ∨ v * foe = 1 ∧ d % 2 ≠ 0 ∧ tSR d = -foe)
def ySq (c r d k : Int) : Int := (r + k * tSR d) * 8 + (c + k * tSC d)
/-- the first man from i steps on strikes -/
def yRay (b : Int → Int) (c r d foe i : Int) : Prop := ∃ k, i ≤ k ∧ k < 8 ∧ yIn (c + k * tSC d) (r + k * tSR d) ∧ (∀ j, i ≤ j → j < k → yIn (c + j * tSC d) (r + j * tSR d) ∧ b (ySq c r d j) = 0) ∧ b (ySq c r d k) ≠ 0 ∧ yHits (b (ySq c r d k)) d foe k
section ZR
variable {L a e : Nat} {m : Nat → Int → Int} (D : Nat)
theorem zk_78 (h : yBd L a e) (hT : yTab m) (hB : zOkC (m e)) (c r d foe : Int) (hc : 0 ≤ c ∧ c < 8) (hr : 0 ≤ r ∧ r < 8) (hd : 0 ≤ d ∧ d < 8) (hf : foe = 1 ∨ foe = -1) : zmD zP (D + 1) 78 [zr a, zi c, zi r, zi d, zi foe] (zW L m) = some (some (zi (yT (yRay (m e) c r d foe 1))), zW L m) := by
  obtain ⟨t1, t2, t3, t4, -, -, -, -, t5⟩ := tS_in hd
  rw [zen_78, zb_78_0]
  suffices q : ∀ k i : Nat, 0 < i → i + k = 8 → ∀ o6 o7 o8 o9, zmE (zmD zP D) zc_78 (3, [some (zr a), some (zi c), some (zi r), some (zi d), some (zi foe), some (zi i), o6, o7, o8, o9], [], zW L m) = some (some (zi (yT (yRay (m e) c r d foe i))), zW L m) from q 7 1 (by decide) rfl none none none none
  intro k
  induction k with
  | zero =>
    intro i hi0 hi o6 o7 o8 o9
    rw [zb_78_3, if_neg (by omega), yT_neg]
    rintro ⟨k, h1, h2, -⟩
    omega
  | succ k ih =>
    intro i hi0 hi o6 o7 o8 o9
    have ihn := ih (i + 1) (by omega) (by omega)
    rw [Int.natCast_succ] at ihn
    have p1 : -7 ≤ (i : Int) * tSC d ∧ (i : Int) * tSC d ≤ 7 := by
      have : tSC d = -1 ∨ tSC d = 0 ∨ tSC d = 1 := by omega
      rcases this with q | q | q <;> rw [q] <;> omega
    have p2 : -7 ≤ (i : Int) * tSR d ∧ (i : Int) * tSR d ≤ 7 := by
      have : tSR d = -1 ∨ tSR d = 0 ∨ tSR d = 1 := by omega
      rcases this with q | q | q <;> rw [q] <;> omega
    have out : ¬ yIn (c + i * tSC d) (r + i * tSR d) → yT (yRay (m e) c r d foe i) = 0 := fun g => yT_neg (by
      rintro ⟨k', h1, h2, h3, h4, -⟩
      by_cases hk : k' = i
      · rw [hk] at h3
        exact g h3
      · exact g (h4 i (Int.le_refl _) (by omega)).1)
    rw [zb_78_3, if_pos (by omega), zw_ai (congrArg Prod.fst (zhx_2)) hd.1 (by rw [zhx_2]; exact hd.2), zbs, hT.2.2.1, w32_of (z := (i : Int) * tSC d) (by omega) (by omega), w32_of (z := c + _) (by omega) (by omega), zb_78_22, zw_ai (congrArg Prod.fst (zhx_3)) hd.1 (by rw [zhx_3]; exact hd.2), zbs, hT.2.2.2.1, w32_of (z := (i : Int) * tSR d) (by omega) (by omega), w32_of (z := r + _) (by omega) (by omega), zb_78_34]
    by_cases g1 : c + i * tSC d < 0
    · rw [if_pos g1, out (fun q => by unfold yIn at q; omega)]
    rw [if_neg g1]
    by_cases g2 : c + i * tSC d < 8
    · rw [if_pos g2]
      by_cases g3 : r + i * tSR d < 0
      · rw [if_pos g3, out (fun q => by unfold yIn at q; omega)]
      rw [if_neg g3]
      by_cases g4 : r + i * tSR d < 8
      · have hin : yIn (c + i * tSC d) (r + i * tSR d) := ⟨by omega, g2, by omega, g4⟩
        rw [if_pos g4, ybr h, zbs, w32_of (z := (r + i * tSR d) * 8) (by omega) (by omega), w32_of (by omega) (by omega), yba h (by omega) (by omega), zbs]
        have hsq : (r + i * tSR d) * 8 + (c + i * tSC d) = ySq c r d i := rfl
        have hv := hB (ySq c r d i) (by rw [← hsq]; omega) (by rw [← hsq]; omega)
        rw [hsq]
        have hvf : w32 (m e (ySq c r d i) * foe) = m e (ySq c r d i) * foe := by
          rcases hf with q | q <;> rw [q] <;> exact w32_of (by omega) (by omega)
        have hz : m e (ySq c r d i) * foe = 0 ↔ m e (ySq c r d i) = 0 := by
          rcases hf with q | q <;> rw [q] <;> omega
        rw [hvf]
        by_cases g5 : m e (ySq c r d i) * foe = 0
        · rw [if_pos g5, w32_of (by omega) (by omega), ihn]
          refine congrArg (fun x => some (some (zi x), zW L m)) (yT_c ⟨fun ⟨k', h1, h2, h3, h4, h5⟩ => ⟨k', by omega, h2, h3, fun j hj1 hj2 => ?_, h5⟩, fun ⟨k', h1, h2, h3, h4, h5⟩ => ?_⟩)
          · by_cases hj : j = i
            · rw [hj]
              exact ⟨hin, hz.mp g5⟩
            · exact h4 j (by omega) hj2
          · by_cases hk : k' = i
            · rw [hk] at h5
              exact absurd (hz.mp g5) h5.1
            · exact ⟨k', by omega, h2, h3, fun j hj1 hj2 => h4 j (by omega) hj2, h5⟩
        · have hit : yT (yRay (m e) c r d foe i) = yT (yHits (m e (ySq c r d i)) d foe i) := yT_c ⟨fun ⟨k', h1, h2, h3, h4, h5⟩ => by
            by_cases hk : k' = i
            · rw [hk] at h5
              exact h5.2
            · exact absurd (h4 i (Int.le_refl _) (by omega)).2 (fun q => g5 (hz.mpr q)), fun q => ⟨i, Int.le_refl _, by omega, hin, fun j hj1 hj2 => absurd hj2 (by omega), fun q2 => g5 (hz.mpr q2), q⟩⟩
          rw [if_neg g5, hit, t5]
          generalize hv8 : m e (ySq c r d i) * foe = v8 at *
          have fin : ∀ x : Int, (x = 0 ∨ x = 1) → x = d % 2 → zmE (zmD zP D) zc_78 (97, [some (zr a), some (zi c), some (zi r), some (zi d), some (zi foe), some (zi i), some (zi (c + i * tSC d)), some (zi (r + i * tSR d)), some (zi v8), o9], [zi x], zW L m) = some (some (zi (yT (v8 = 5 ∨ v8 = (if d % 2 = 0 then 4 else 3) ∨ (i : Int) = 1 ∧ (v8 = 6 ∨ v8 = 1 ∧ d % 2 ≠ 0 ∧ tSR d = -foe)))), zW L m) := fun x hx hx2 => by
            have tail : zmE (zmD zP D) zc_78 (117, [some (zr a), some (zi c), some (zi r), some (zi d), some (zi foe), some (zi i), some (zi (c + i * tSC d)), some (zi (r + i * tSR d)), some (zi v8), some (zi x)], [zi (if x = 0 then 4 else 3), zi v8], zW L m) = some (some (zi (yT (v8 = (if d % 2 = 0 then 4 else 3) ∨ (i : Int) = 1 ∧ (v8 = 6 ∨ v8 = 1 ∧ d % 2 ≠ 0 ∧ tSR d = -foe)))), zW L m) := by
              rw [zb_78_117, hx2]
              generalize (if d % 2 = 0 then (4 : Int) else 3) = u
              by_cases k1 : v8 = u
              · rw [if_pos k1, yT_pos (.inl k1)]
              rw [if_neg k1]
              by_cases k2 : (i : Int) = 1
              · rw [if_pos k2]
                by_cases k3 : v8 = 6
                · rw [if_pos k3, zb_78_157, yT_pos (.inr ⟨k2, .inl k3⟩)]
                rw [if_neg k3]
                by_cases k4 : v8 = 1
                · rw [if_pos k4]
                  by_cases k5 : d % 2 = 0
                  · rw [if_pos k5, yT_neg]
                    rintro (q | ⟨-, q | ⟨-, q, -⟩⟩)
                    · exact k1 q
                    · exact k3 q
                    · exact q k5
                  · rw [if_neg k5, zw_ai (congrArg Prod.fst (zhx_3)) hd.1 (by rw [zhx_3]; exact hd.2), zbs, hT.2.2.2.1, w32_of (z := -foe) (by omega) (by omega)]
                    by_cases k6 : tSR d = -foe
                    · rw [if_pos k6, zb_78_157, yT_pos (.inr ⟨k2, .inr ⟨k4, k5, k6⟩⟩)]
                    · rw [if_neg k6, yT_neg]
                      rintro (q | ⟨-, q | ⟨-, -, q⟩⟩)
                      · exact k1 q
                      · exact k3 q
                      · exact k6 q
                · rw [if_neg k4, yT_neg]
                  rintro (q | ⟨-, q | ⟨q, -⟩⟩)
                  · exact k1 q
                  · exact k3 q
                  · exact k4 q
              · rw [if_neg k2, yT_neg]
                rintro (q | ⟨q, -⟩)
                · exact k1 q
                · exact k2 q
            rw [zb_78_97]
            by_cases k1 : v8 = 5
            · rw [if_pos k1, yT_pos (.inl k1)]
            · rw [if_neg k1]
              have e2 : yT (v8 = 5 ∨ v8 = (if d % 2 = 0 then 4 else 3) ∨ (i : Int) = 1 ∧ (v8 = 6 ∨ v8 = 1 ∧ d % 2 ≠ 0 ∧ tSR d = -foe)) = yT (v8 = (if d % 2 = 0 then 4 else 3) ∨ (i : Int) = 1 ∧ (v8 = 6 ∨ v8 = 1 ∧ d % 2 ≠ 0 ∧ tSR d = -foe)) := yT_c ⟨fun q => q.resolve_left k1, .inr⟩
              rw [e2, ← tail]
              by_cases kx : x = 0
              · rw [if_pos kx, if_pos kx]
              · rw [if_neg kx, if_neg kx]
          unfold yHits
          rw [hv8]
          by_cases k0 : d % 2 = 0
          · rw [if_pos k0]
            exact fin 0 (.inl rfl) k0.symm
          · rw [if_neg k0]
            exact fin 1 (.inr rfl) (by omega)
      · rw [if_neg g4, out (fun q => by unfold yIn at q; omega)]
    · rw [if_neg g2, out (fun q => by unfold yIn at q; omega)]
end ZR
