/-! who reaches what, in the reference -/
noncomputable def yT (p : Prop) : Int := @ite Int p (Classical.propDecidable p) 1 0
theorem yT_pos {p : Prop} (h : p) : yT p = 1 := if_pos h
theorem yT_neg {p : Prop} (h : ¬p) : yT p = 0 := if_neg h
theorem yT_or {p : Prop} : yT p = 0 ∨ yT p = 1 := by
  by_cases h : p
  · exact .inr (yT_pos h)
  · exact .inl (yT_neg h)
theorem yT_z {p : Prop} : yT p = 0 ↔ ¬p := by
  by_cases h : p
  · rw [yT_pos h]
    exact ⟨fun q => by omega, fun q => absurd h q⟩
  · rw [yT_neg h]
    exact ⟨fun _ => h, fun _ => rfl⟩
theorem yT_c {p q : Prop} (h : p ↔ q) : yT p = yT q := by rw [propext h]
theorem yB_T {p : Prop} [Decidable p] : zB p = yT p := by
  unfold zB
  by_cases h : p
  · rw [if_pos h, yT_pos h]
  · rw [if_neg h, yT_neg h]
theorem yT_nn {p : Prop} : 0 ≤ yT p := by cases yT_or (p := p) <;> omega
theorem yT_le {p : Prop} : yT p ≤ 1 := by cases yT_or (p := p) <;> omega
/-- the board of a level -/
def zbd (m : Nat → Int → Int) (l : Int) : Int → Int := fun s => m 105 (64 * l + s)
def zOkB (b : Int → Int) : Prop := ∀ s, 0 ≤ s → s < 64 → 0 ≤ b s ∧ b s ≤ 14
def zAc (f t : Int) : Int := zamt (t % 8 - f % 8)
def zAl (f t : Int) : Int := t / 8 - f / 8
def zSt (f t : Int) : Int := 8 * zsgn (t / 8 - f / 8) + zsgn (t % 8 - f % 8)
def zNs (f t : Int) : Nat := (max (zAc f t) (zamt (zAl f t))).toNat
def zFree (b : Int → Int) (f st : Int) (n : Nat) : Prop := ∀ k : Nat, 0 < k → k < n → b (f + k * st) = 0
def zLine (f t : Int) : Prop := f ≠ t ∧ (f % 8 = t % 8 ∨ f / 8 = t / 8 ∨ zAc f t = zamt (zAl f t))
theorem zLine_n {f t : Int} (h : zLine f t) (hf : 0 ≤ f ∧ f < 64) (ht : 0 ≤ t ∧ t < 64) : 0 < zNs f t ∧ t = f + zNs f t * zSt f t := by
  obtain ⟨h1, h2⟩ := h
  unfold zNs zSt
  unfold zAc zAl at h2 ⊢
  have e1 : zsgn (t / 8 - f / 8) = 1 ∧ f / 8 < t / 8 ∧ zamt (t / 8 - f / 8) = t / 8 - f / 8 ∨ zsgn (t / 8 - f / 8) = -1 ∧ t / 8 < f / 8 ∧ zamt (t / 8 - f / 8) = f / 8 - t / 8 ∨ zsgn (t / 8 - f / 8) = 0 ∧ t / 8 = f / 8 ∧ zamt (t / 8 - f / 8) = 0 := by
    unfold zsgn zamt
    split <;> (try split) <;> omega
  have e2 : zsgn (t % 8 - f % 8) = 1 ∧ f % 8 < t % 8 ∧ zamt (t % 8 - f % 8) = t % 8 - f % 8 ∨ zsgn (t % 8 - f % 8) = -1 ∧ t % 8 < f % 8 ∧ zamt (t % 8 - f % 8) = f % 8 - t % 8 ∨ zsgn (t % 8 - f % 8) = 0 ∧ t % 8 = f % 8 ∧ zamt (t % 8 - f % 8) = 0 := by
    unfold zsgn zamt
    split <;> (try split) <;> omega
  obtain ⟨a1, a2, a3⟩ | ⟨a1, a2, a3⟩ | ⟨a1, a2, a3⟩ := e1 <;> obtain ⟨b1, b2, b3⟩ | ⟨b1, b2, b3⟩ | ⟨b1, b2, b3⟩ := e2 <;> rw [a1, b1, a3, b3] <;> rw [a3, b3] at h2 <;> omega
theorem zLine_at {f t : Int} (h : zLine f t) (hf : 0 ≤ f ∧ f < 64) (ht : 0 ≤ t ∧ t < 64) (k : Nat) (hk : k ≤ zNs f t) : 0 ≤ f + k * zSt f t ∧ f + k * zSt f t < 64 ∧ (k < zNs f t → f + k * zSt f t ≠ t) ∧ (f + k * zSt f t) / 8 = f / 8 + k * zsgn (t / 8 - f / 8) ∧ (f + k * zSt f t) % 8 = f % 8 + k * zsgn (t % 8 - f % 8) := by
  obtain ⟨h1, h2⟩ := h
  unfold zNs at hk ⊢
  unfold zSt
  unfold zAc zAl at h2 hk ⊢
  have e1 : zsgn (t / 8 - f / 8) = 1 ∧ f / 8 < t / 8 ∧ zamt (t / 8 - f / 8) = t / 8 - f / 8 ∨ zsgn (t / 8 - f / 8) = -1 ∧ t / 8 < f / 8 ∧ zamt (t / 8 - f / 8) = f / 8 - t / 8 ∨ zsgn (t / 8 - f / 8) = 0 ∧ t / 8 = f / 8 ∧ zamt (t / 8 - f / 8) = 0 := by
    unfold zsgn zamt
    split <;> (try split) <;> omega
  have e2 : zsgn (t % 8 - f % 8) = 1 ∧ f % 8 < t % 8 ∧ zamt (t % 8 - f % 8) = t % 8 - f % 8 ∨ zsgn (t % 8 - f % 8) = -1 ∧ t % 8 < f % 8 ∧ zamt (t % 8 - f % 8) = f % 8 - t % 8 ∨ zsgn (t % 8 - f % 8) = 0 ∧ t % 8 = f % 8 ∧ zamt (t % 8 - f % 8) = 0 := by
    unfold zsgn zamt
    split <;> (try split) <;> omega
  obtain ⟨a1, a2, a3⟩ | ⟨a1, a2, a3⟩ | ⟨a1, a2, a3⟩ := e1 <;> obtain ⟨b1, b2, b3⟩ | ⟨b1, b2, b3⟩ | ⟨b1, b2, b3⟩ := e2 <;> rw [a1, b1] <;> rw [a3, b3] at h2 hk ⊢ <;> omega
section ZR
variable {L : Nat} {m : Nat → Int → Int} (d : Nat)
theorem zk_239 (l f t : Int) (hl : 0 ≤ l ∧ l < 4) (hf : 0 ≤ f ∧ f < 64) (ht : 0 ≤ t ∧ t < 64) (h : zLine f t) : zmD zP (d + 2) 239 [zr 98, zi l, zi f, zi t] (zW L m) = some (some (zi (yT (zFree (zbd m l) f (zSt f t) (zNs f t)))), zW L m) := by
  obtain ⟨n0, hn⟩ := zLine_n h hf ht
  have s1 : -1 ≤ zsgn (t / 8 - f / 8) ∧ zsgn (t / 8 - f / 8) ≤ 1 := by
    unfold zsgn
    split <;> (try split) <;> omega
  have s2 : -1 ≤ zsgn (t % 8 - f % 8) ∧ zsgn (t % 8 - f % 8) ≤ 1 := by
    unfold zsgn
    split <;> (try split) <;> omega
  rw [zen_239, zb_239_0, z_div_of ht.1 (by omega) (by decide), z_div_of hf.1 (by omega) (by decide), w32_of (by omega) (by omega), zk_240, zbs, zmG_v, zb_239_14, z_rem_of ht.1 (by omega) (by decide) (by decide), z_rem_of hf.1 (by omega) (by decide) (by decide), w32_of (z := t % 8 - f % 8) (by omega) (by omega), zk_240, zbs, zmG_v, zb_239_27, w32_of (z := 8 * zsgn (t / 8 - f / 8)) (by omega) (by omega), w32_of (z := 8 * zsgn (t / 8 - f / 8) + zsgn (t % 8 - f % 8)) (by omega) (by omega)]
  have hst : 8 * zsgn (t / 8 - f / 8) + zsgn (t % 8 - f % 8) = zSt f t := rfl
  rw [hst, w32_of (by omega) (by omega)]
  have hst2 : -9 ≤ zSt f t ∧ zSt f t ≤ 9 := by omega
  have hat := fun k => zLine_at h hf ht k
  generalize zSt f t = st at *
  generalize zNs f t = n at *
  suffices q : ∀ j i : Nat, 0 < i → i + j = n → zmE (zmD zP (d + 1)) zc_239 (36, [some (zr 98), some (zi l), some (zi f), some (zi t), some (zi st), some (zi (f + i * st))], [], zW L m) = some (some (zi (yT (∀ k : Nat, i ≤ k → k < n → zbd m l (f + k * st) = 0))), zW L m) by
    have e := q (n - 1) 1 (by decide) (by omega)
    have e1 : f + ((1 : Nat) : Int) * st = f + st := by rw [Int.natCast_one, Int.one_mul]
    rw [e1] at e
    exact e
  intro j
  induction j with
  | zero =>
    intro i hi hn'
    have e : i = n := by omega
    subst e
    rw [zb_239_36, if_pos hn.symm, yT_pos (fun k h1 h2 => absurd h2 (by omega))]
  | succ j ih =>
    intro i hi hn'
    have hi2 : i < n := by omega
    obtain ⟨e3, e5, e2, -⟩ := hat i (by omega)
    have e2 := e2 hi2
    rw [zb_239_36, if_neg e2, zgr_98_8, zbs, w32_of (z := 64 * l) (by omega) (by omega), w32_of (z := 64 * l + _) (by omega) (by omega), zai_105 (by omega) (by omega), zbs]
    have hb : m 105 (64 * l + (f + i * st)) = zbd m l (f + i * st) := rfl
    rw [hb]
    by_cases g : zbd m l (f + i * st) = 0
    · rw [if_pos g, w32_of (by omega) (by omega)]
      have e := ih (i + 1) (by omega) (by omega)
      have e4 : f + ((i + 1 : Nat) : Int) * st = f + i * st + st := by rw [Int.natCast_succ, Int.add_mul, Int.one_mul]; omega
      rw [e4] at e
      rw [e]
      refine congrArg (fun x => some (some (zi x), zW L m)) (yT_c ⟨fun q k h1 h2 => ?_, fun q k h1 h2 => q k (by omega) h2⟩)
      by_cases hk : k = i
      · rw [hk]
        exact g
      · exact q k (by omega) h2
    · rw [if_neg g, yT_neg (fun q => g (q i (Nat.le_refl i) hi2))]
end ZR
