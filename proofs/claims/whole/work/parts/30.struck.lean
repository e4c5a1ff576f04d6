/-! isStruck of the class -/
theorem z_bits64 : ∀ n : Nat, n < 64 → z_and n 7 = (n : Int) % 8 ∧ z_shr n 3 = (n : Int) / 8 := by decide +kernel
theorem z_and7 {s : Int} (h : 0 ≤ s ∧ s < 64) : z_and s 7 = s % 8 ∧ z_shr s 3 = s / 8 := by
  have := z_bits64 s.toNat (by omega)
  rw [show ((s.toNat : Nat) : Int) = s by omega] at this
  exact this
def yLeap (b : Int → Int) (c r d foe : Int) : Prop := yIn (c + tLC d) (r + tLR d) ∧ b ((r + tLR d) * 8 + (c + tLC d)) = foe * 2
def yStruck (b : Int → Int) (t s : Int) : Prop := ∃ d, 0 ≤ d ∧ d < 8 ∧ (yLeap b (s % 8) (s / 8) d (if t = 0 then -1 else 1) ∨ yRay b (s % 8) (s / 8) d (if t = 0 then -1 else 1) 1)
section ZR
variable {L a e : Nat} {m : Nat → Int → Int} (D : Nat)
theorem zk_77 (h : yBd L a e) (hT : yTab m) (hB : zOkC (m e)) (s : Int) (hs : 0 ≤ s ∧ s < 64) : zmD zP (D + 2) 77 [zr a, zi s] (zW L m) = some (some (zi (yT (yStruck (m e) (m a 1) s))), zW L m) := by
  rw [zen_77, zb_77_0, ybi h, zbs]
  have e0 : (if m a 1 = 0 then zmE (zmD zP (D + 1)) zc_77 (12, [some (zr a), some (zi s), none, none, none, none, none, none], [zi (-1)], zW L m) else zmE (zmD zP (D + 1)) zc_77 (12, [some (zr a), some (zi s), none, none, none, none, none, none], [zi 1], zW L m)) = zmE (zmD zP (D + 1)) zc_77 (12, [some (zr a), some (zi s), none, none, none, none, none, none], [zi (if m a 1 = 0 then -1 else 1)], zW L m) := by
    split <;> rfl
  rw [e0, zb_77_12, (z_and7 hs).1, (z_and7 hs).2]
  unfold yStruck
  have hf : (if m a 1 = 0 then (-1 : Int) else 1) = 1 ∨ (if m a 1 = 0 then (-1 : Int) else 1) = -1 := by split <;> omega
  generalize (if m a 1 = 0 then (-1 : Int) else 1) = foe at *
  have hc : 0 ≤ s % 8 ∧ s % 8 < 8 := by omega
  have hr : 0 ≤ s / 8 ∧ s / 8 < 8 := by omega
  generalize s % 8 = c at *
  generalize s / 8 = r at *
  suffices q : ∀ k i : Nat, i + k = 8 → ∀ o6 o7, zmE (zmD zP (D + 1)) zc_77 (26, [some (zr a), some (zi s), some (zi foe), some (zi c), some (zi r), some (zi i), o6, o7], [], zW L m) = some (some (zi (yT (∃ d, (i : Int) ≤ d ∧ d < 8 ∧ (yLeap (m e) c r d foe ∨ yRay (m e) c r d foe 1)))), zW L m) from q 8 0 rfl none none
  intro k
  induction k with
  | zero =>
    intro i hi o6 o7
    rw [zb_77_26, if_neg (by omega), yT_neg]
    rintro ⟨d, h1, h2, -⟩
    omega
  | succ k ih =>
    intro i hi o6 o7
    have ihn := ih (i + 1) (by omega)
    rw [Int.natCast_succ] at ihn
    obtain ⟨-, -, -, -, t1, t2, t3, t4, -⟩ := tS_in (d := (i : Int)) ⟨by omega, by omega⟩
    have skip : ¬ yLeap (m e) c r i foe → ∀ x6 x7, zmE (zmD zP (D + 1)) zc_77 (99, [some (zr a), some (zi s), some (zi foe), some (zi c), some (zi r), some (zi i), some (zi x6), some (zi x7)], [], zW L m) = some (some (zi (yT (∃ d, (i : Int) ≤ d ∧ d < 8 ∧ (yLeap (m e) c r d foe ∨ yRay (m e) c r d foe 1)))), zW L m) := fun g x6 x7 => by
      rw [zb_77_99, ybc h, zk_78 D h hT hB c r i foe hc hr ⟨by omega, by omega⟩ hf, zbs, zmG_v, zb_77_109]
      by_cases g2 : yRay (m e) c r i foe 1
      · rw [yT_pos g2, if_neg (by decide), yT_pos ⟨i, Int.le_refl _, by omega, .inr g2⟩]
      · rw [yT_neg g2, if_pos rfl, w32_of (by omega) (by omega), ihn]
        refine congrArg (fun x => some (some (zi x), zW L m)) (yT_c ⟨fun ⟨d, h1, h2⟩ => ⟨d, by omega, h2⟩, fun ⟨d, h1, h2, h3⟩ => ?_⟩)
        by_cases hd : d = i
        · rw [hd] at h3
          exact (h3.elim g g2).elim
        · exact ⟨d, by omega, h2, h3⟩
    rw [zb_77_26, if_pos (by omega), zw_ai (congrArg Prod.fst (zhx_0)) (by omega) (by rw [zhx_0]; show (i : Int) < 8; omega), zbs, hT.1, zw_ai (congrArg Prod.fst (zhx_1)) (by omega) (by rw [zhx_1]; show (i : Int) < 8; omega), zbs, hT.2.1, w32_of (z := c + _) (by omega) (by omega), w32_of (z := r + _) (by omega) (by omega)]
    by_cases g1 : c + tLC i < 0
    · rw [if_pos g1, skip (fun q => by have := q.1; unfold yIn at this; omega)]
    rw [if_neg g1]
    by_cases g2 : c + tLC i < 8
    · rw [if_pos g2]
      by_cases g3 : r + tLR i < 0
      · rw [if_pos g3, skip (fun q => by have := q.1; unfold yIn at this; omega)]
      rw [if_neg g3]
      by_cases g4 : r + tLR i < 8
      · rw [if_pos g4, ybr h, zbs, w32_of (z := (r + tLR i) * 8) (by omega) (by omega), w32_of (z := (r + tLR i) * 8 + _) (by omega) (by omega), yba h (by omega) (by omega), zbs, w32_of (z := foe * 2) (by omega) (by omega)]
        by_cases g5 : m e ((r + tLR i) * 8 + (c + tLC i)) = foe * 2
        · rw [if_pos g5, yT_pos ⟨i, Int.le_refl _, by omega, .inl ⟨⟨by omega, g2, by omega, g4⟩, g5⟩⟩]
        · rw [if_neg g5, skip (fun q => g5 q.2)]
      · rw [if_neg g4, skip (fun q => by have := q.1; unfold yIn at this; omega)]
    · rw [if_neg g2, skip (fun q => by have := q.1; unfold yIn at this; omega)]
end ZR
