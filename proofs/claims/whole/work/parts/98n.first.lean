/-! both objects as they are made: one state -/
theorem zlkI_v {f : Nat → Int → Int} {a : Nat} {i : Int} : ∀ I : List (Nat × Int × Int), zlkI I f a i = ((I.find? fun e => e.1 == a && e.2.1 == i).map fun e => e.2.2).getD (f a i)
  | [] => rfl
  | (a', i', r) :: t => by
    have ih := zlkI_v (f := f) (a := a) (i := i) t
    show zup (zlkI t f) a' i' r a i = _
    rw [List.find?_cons]
    by_cases g : a' = a ∧ i' = i
    · obtain ⟨rfl, rfl⟩ := g
      have : (((a', i', r) : Nat × Int × Int).1 == a' && ((a', i', r) : Nat × Int × Int).2.1 == i') = true := by
        rw [Bool.and_eq_true, beq_iff_eq, beq_iff_eq]
        exact ⟨rfl, rfl⟩
      rw [this, zup_self]
      rfl
    · have : (((a', i', r) : Nat × Int × Int).1 == a && ((a', i', r) : Nat × Int × Int).2.1 == i) = false := by
        rw [Bool.eq_false_iff]
        intro q
        rw [Bool.and_eq_true, beq_iff_eq, beq_iff_eq] at q
        exact g q
      rw [this, ← ih]
      by_cases g2 : a = a'
      · rw [g2]
        exact zup_ne2 fun q => g ⟨g2.symm, q.symm⟩
      · exact zup_ne g2
def yV0 (a : Nat) (i : Int) : Int := ((zqI_175.find? fun e => e.1 == a && e.2.1 == i).map fun e => e.2.2).getD 0
theorem yV0_none {a : Nat} (h : (zqI_175.all fun e => e.1 != a) = true) (i : Int) : yV0 a i = 0 := by
  have : zqI_175.find? (fun e => e.1 == a && e.2.1 == i) = none := List.find?_eq_none.mpr fun e he q => by
    have := List.all_eq_true.mp h e he
    rw [Bool.and_eq_true, beq_iff_eq] at q
    rw [bne_iff_ne] at this
    exact this q.1
  unfold yV0
  rw [this]
  rfl
section ZR
variable {L : Nat} {xs : Nat → Int32}
theorem zM0_v {a : Nat} (ha : a < 1000) (i : Int) : zM0 xs a i = yV0 a i := by
  unfold zM0 yV0
  rw [zlkI_v]
  have : (if a < zXB then (0 : Int) else zxm xs a i) = 0 := if_pos ha
  rw [this]
theorem zM0_x {a : Nat} (ha : 1000 ≤ a) (i : Int) : zM0 xs a i = zxm xs a i := by
  have h0 : ∀ e ∈ zqI_175, e.1 < 118 := List.all_eq_true.mp (by decide +kernel : (zqI_175.all fun e => decide (e.1 < 118)) = true) |> fun q e he => of_decide_eq_true (q e he)
  unfold zM0
  rw [zlkI_v]
  have : zqI_175.find? (fun e => e.1 == a && e.2.1 == i) = none := List.find?_eq_none.mpr fun e he q => by
    have := h0 e he
    rw [Bool.and_eq_true, beq_iff_eq] at q
    omega
  rw [this]
  exact if_neg (by unfold zXB; omega)
theorem yV_9 : ∀ n : Nat, n < 64 → yV0 9 n = if n = 0 then 6 else if n = 63 then -6 else 0 := by decide +kernel
theorem yV_105 : ∀ n : Nat, n < 64 → yV0 105 n = if n = 0 then 6 else if n = 63 then 14 else 0 := by decide +kernel
theorem yV_19 : ∀ n : Nat, n < 6 → yV0 19 n = 1 := by decide +kernel
theorem yV_111 : ∀ n : Nat, n < 6 → yV0 111 n = 1 := by decide +kernel
theorem yV_no : (∀ a ∈ [0, 2, 4, 6, 18, 25, 90, 92, 94, 96, 104], (zqI_175.all fun e => e.1 != a) = true) := by decide +kernel
theorem yV_8 : yV0 8 1 = 0 ∧ yV0 8 2 = 0 ∧ yV0 8 3 = 63 ∧ yV0 11 0 = 0 ∧ yV0 11 1 = 0 ∧ yV0 11 2 = 1 ∧ yV0 27 0 = 0 ∧ yV0 27 1 = 0 ∧ yV0 27 2 = 1 ∧ yV0 106 0 = 0 ∧ yV0 98 10 = 0 ∧ yV0 98 4 = 0 ∧ yV0 99 0 = -1 ∧ yV0 99 1 = -1 ∧ yV0 99 2 = -1 ∧ yV0 99 3 = -1 := by decide +kernel
theorem yHome_nil : yHome [] = (0, yB0, 0) := by
  have : ¬ yGood (yRd [] 7 0 0 (fun _ => 0) 0 0) := fun q => by
    have := q.1
    rw [yRd_nil] at this
    exact absurd this (by decide)
  unfold yHome
  rw [yT_neg this, if_pos rfl, yRd_nil]
theorem zM0_sq (s : Int) (h1 : 0 ≤ s) (h2 : s < 64) : zM0 xs 9 s = if s = 0 then 6 else if s = 63 then -6 else 0 := by
  have := yV_9 s.toNat (by omega)
  rw [show ((s.toNat : Nat) : Int) = s by omega] at this
  rw [zM0_v (by decide), this]
  by_cases g : s = 0
  · rw [if_pos (by omega), if_pos g]
  · rw [if_neg (by omega), if_neg g]
    by_cases g2 : s = 63
    · rw [if_pos (by omega), if_pos g2]
    · rw [if_neg (by omega), if_neg g2]
theorem yB0_in (s : Int) : yB0 s = 0 ∨ yB0 s = 6 ∨ yB0 s = 14 := by
  unfold yB0
  split
  · exact .inr (.inl rfl)
  · split
    · exact .inr (.inr rfl)
    · exact .inl rfl
theorem yPu_0 : yPu yB0 0 := by
  refine ⟨fun s _ _ => ?_, fun s _ _ => ?_, fun s _ _ => ?_, .inl rfl⟩
  all_goals
    rcases yB0_in s with h | h | h <;> rw [h] <;> decide
theorem yCs_0 : yCs (zM0 xs) (fun _ => []) yB0 0 0 0 (fun _ => 1) (fun _ => -1) (fun _ => []) := by
  obtain ⟨a1, a2, a3, a4, a5, a6, a7, a8, a9, -⟩ := yV_8
  have no : ∀ a : Nat, a ∈ [0, 2, 4, 6, 18, 25, 90, 92, 94, 96, 104] → a < 1000 → ∀ i, zM0 xs a i = 0 := fun a ha h i => (zM0_v h i).trans (yV0_none (yV_no a ha) i)
  have sq := zM0_sq (xs := xs)
  refine ⟨⟨yTw_nil (no 2 (by decide) (by decide) 1), yTw_nil (no 4 (by decide) (by decide) 1), yTw_nil (no 6 (by decide) (by decide) 1)⟩, ⟨⟨⟨fun i => zM0_x (by decide) i, fun i => zM0_x (by decide) i, fun i => zM0_x (by decide) i, fun i => zM0_x (by decide) i, fun i => zM0_x (by decide) i⟩, fun s s1 s2 => ?_, ?_, ?_, ?_⟩, fun s s1 s2 => ?_, ?_⟩, ⟨?_, no 0 (by decide) (by decide) 14, no 0 (by decide) (by decide) 15⟩, .inl (no 0 (by decide) (by decide) 16), ⟨⟨⟨zM0_x (by decide) 1, fun i => zM0_x (by decide) i⟩, zM0_x (by decide) 1, fun i => zM0_x (by decide) i⟩, ⟨(zM0_v (by decide) 0).trans a4, (zM0_v (by decide) 1).trans a5, (zM0_v (by decide) 2).trans a6⟩, ⟨(zM0_v (by decide) 0).trans a7, (zM0_v (by decide) 1).trans a8, (zM0_v (by decide) 2).trans a9⟩, fun s _ _ => no 18 (by decide) (by decide) s, fun s _ _ => no 25 (by decide) (by decide) s⟩, fun i i1 i2 => ?_, .inl ⟨rfl, no 90 (by decide) (by decide) 1⟩, .inl ⟨rfl, no 92 (by decide) (by decide) 1⟩, .inl ⟨rfl, no 94 (by decide) (by decide) 1⟩, .inl ⟨rfl, no 96 (by decide) (by decide) 1⟩⟩
  · rw [sq s s1 s2]
    repeat' split
    all_goals decide
  · exact .inl ((zM0_v (by decide) 1).trans a1)
  · refine .inr ?_
    rw [(zM0_v (by decide) 2).trans a2]
    refine ⟨by decide, by decide, by rw [sq 0 (by decide) (by decide)]; rfl, fun s s1 s2 h => ?_⟩
    rw [sq s s1 s2] at h
    by_cases g : s = 0
    · exact g
    · rw [if_neg g] at h
      split at h <;> omega
  · refine .inr ?_
    rw [(zM0_v (by decide) 3).trans a3]
    refine ⟨by decide, by decide, by rw [sq 63 (by decide) (by decide)]; rfl, fun s s1 s2 h => ?_⟩
    rw [sq s s1 s2] at h
    by_cases g : s = 0
    · rw [if_pos g] at h
      omega
    · rw [if_neg g] at h
      split at h <;> omega
  · unfold yB yEnc yB0
    rw [sq s s1 s2]
    by_cases g : s = 0
    · rw [if_pos g, if_pos g]
      decide
    · rw [if_neg g, if_neg g]
      by_cases g2 : s = 63
      · rw [if_pos g2, if_pos g2]
        decide
      · rw [if_neg g2, if_neg g2]
        decide
  · rw [(zM0_v (by decide) 1).trans a1]
    decide
  · rw [yHome_nil]
    exact no 0 (by decide) (by decide) 13
  · have := yV_19 i.toNat (by omega)
    rw [show ((i.toNat : Nat) : Int) = i by omega] at this
    exact ⟨(zM0_v (by decide) i).trans this, (by decide : (0 : Int) ≤ 1), (by decide : (1 : Int) ≤ 9)⟩
theorem yRs_0 : yRs (zM0 xs) (fun _ => []) yB0 0 0 0 (fun _ => 1) (fun _ => -1) (fun _ => []) := by
  obtain ⟨-, -, -, -, -, -, -, -, -, a10, a11, a12, a13, a14, a15, a16⟩ := yV_8
  have no : ∀ i, zM0 xs 104 i = 0 := fun i => (zM0_v (by decide) i).trans (yV0_none (yV_no 104 (by decide)) i)
  refine ⟨⟨⟨by decide, no 0, Nat.zero_le _, fun i hi => absurd hi (Nat.not_lt_zero i)⟩, ⟨by decide, no 1, Nat.zero_le _, fun i hi => absurd hi (Nat.not_lt_zero i)⟩, ⟨by decide, no 2, Nat.zero_le _, fun i hi => absurd hi (Nat.not_lt_zero i)⟩⟩, ⟨yPu_0, fun s s1 s2 => ?_, (zM0_v (by decide) 0).trans a10⟩, ⟨(zM0_v (by decide) 10).trans a11, (zM0_v (by decide) 4).trans a12⟩, fun i i1 i2 => ?_, ⟨(zM0_v (by decide) 0).trans a13, fun q => absurd rfl q⟩, ⟨(zM0_v (by decide) 1).trans a14, fun q => absurd rfl q⟩, ⟨(zM0_v (by decide) 2).trans a15, fun q => absurd rfl q⟩, ⟨(zM0_v (by decide) 3).trans a16, fun q => absurd rfl q⟩⟩
  · have := yV_105 s.toNat (by omega)
    rw [show ((s.toNat : Nat) : Int) = s by omega] at this
    unfold zbd yB0
    rw [show (64 : Int) * 0 + s = s by omega, zM0_v (by decide), this]
    by_cases g : s = 0
    · rw [if_pos (by omega), if_pos g]
    · rw [if_neg (by omega), if_neg g]
      by_cases g2 : s = 63
      · rw [if_pos (by omega), if_pos g2]
      · rw [if_neg (by omega), if_neg g2]
  · have := yV_111 i.toNat (by omega)
    rw [show ((i.toNat : Nat) : Int) = i by omega] at this
    exact ⟨(zM0_v (by decide) i).trans this, (by decide : (0 : Int) ≤ 1), (by decide : (1 : Int) ≤ 9)⟩
/-- class, reference and script in one world -/
def yJt (xs : Nat → Int32) (m : Nat → Int → Int) (N : Int) : Prop := ∃ (w : Int → List Int) (b : Int → Int) (c n e : Int) (W F : Int → Int) (Z : Int → List Int), yCs m w b c n e W F Z ∧ yRs m w b c n e W F Z ∧ (0 ≤ n ∧ n ≤ N) ∧ ∀ j : Int, m (zXB + 30) j = (xs j.toNat).toInt
theorem yJt_0 : yJt xs (zM0 xs) 0 := ⟨_, _, _, _, _, _, _, _, yCs_0, yRs_0, by decide, fun j => zM0_x (by decide) j⟩
set_option maxRecDepth 8000 in
theorem zhx_30 : zSH L (zXB + 30) = (100, L) := rfl
end ZR
