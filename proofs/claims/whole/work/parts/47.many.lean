/-! no more than 512 moves -/
theorem yPig : ∀ (n : Nat) (l : List Nat), l.Nodup → (∀ x ∈ l, x < n) → l.length ≤ n := by
  intro n
  induction n with
  | zero =>
    intro l _ h2
    cases l with
    | nil => exact Nat.le_refl 0
    | cons a l => exact absurd (h2 a (List.mem_cons_self ..)) (Nat.not_lt_zero a)
  | succ n ih =>
    intro l h1 h2
    by_cases g : n ∈ l
    · have e := ih (l.erase n) (h1.erase n) fun x hx => by
        have q := (h1.mem_erase_iff).mp hx
        have := h2 x q.2
        have := q.1
        omega
      have e2 := List.length_erase_of_mem g
      have e3 := List.length_pos_of_mem g
      omega
    · refine Nat.le_succ_of_le (ih l h1 fun x hx => ?_)
      have := h2 x hx
      have : x ≠ n := fun q => g (by rw [← q]; exact hx)
      omega
theorem yMvs_mem {b : Int → Int} {c v : Int} : ∀ n : Nat, v ∈ yMvs b c n → 0 ≤ v ∧ v < n ∧ yLaw b c (v / 64) (v % 64)
  | 0, h => by cases h
  | n + 1, h => by
    rw [yMvs_succ] at h
    have key : v ∈ yMvs b c n → 0 ≤ v ∧ v < ((n + 1 : Nat) : Int) ∧ yLaw b c (v / 64) (v % 64) := fun q => by
      obtain ⟨h1, h2, h3⟩ := yMvs_mem n q
      exact ⟨h1, by omega, h3⟩
    by_cases g : yLaw b c ((n : Int) / 64) ((n : Int) % 64)
    · rw [if_pos (yT_pos g)] at h
      rcases List.mem_append.mp h with h | h
      · exact key h
      · rw [List.mem_singleton] at h
        subst h
        exact ⟨by omega, by omega, g⟩
    · rw [if_neg (by rw [yT_neg g]; decide)] at h
      exact key h
theorem yMvs_asc {b : Int → Int} {c : Int} : ∀ n : Nat, (yMvs b c n).Pairwise (· < ·)
  | 0 => List.Pairwise.nil
  | n + 1 => by
    rw [yMvs_succ]
    split
    · rw [List.pairwise_append]
      refine ⟨yMvs_asc n, List.pairwise_singleton _ _, fun x hx y hy => ?_⟩
      rw [List.mem_singleton] at hy
      subst hy
      exact (yMvs_mem n hx).2.1
    · exact yMvs_asc n
theorem yMvs_has {b : Int → Int} {c v : Int} : ∀ n : Nat, 0 ≤ v → v < n → yLaw b c (v / 64) (v % 64) → v ∈ yMvs b c n
  | 0, h1, h2, _ => by omega
  | n + 1, h1, h2, h3 => by
    rw [yMvs_succ]
    by_cases g : v = n
    · subst g
      rw [if_pos (yT_pos h3)]
      exact List.mem_append_right _ (List.mem_singleton.mpr rfl)
    · have := yMvs_has n h1 (by omega) h3
      split
      · exact List.mem_append_left _ this
      · exact this
theorem yMv_mem {b : Int → Int} {c v : Int} : v ∈ yMv b c ↔ 0 ≤ v ∧ v < 4096 ∧ yLaw b c (v / 64) (v % 64) := ⟨yMvs_mem 4096, fun h => yMvs_has 4096 h.1 h.2.1 h.2.2⟩
/-- where a move that is no leap comes from -/
theorem yMay_line {b : Int → Int} {c f s : Int} (hf : 0 ≤ f ∧ f < 64) (hs : 0 ≤ s ∧ s < 64) (h : yMay b c f s) (h2 : b f % 8 ≠ 2) : zLine f s ∧ zFree b f (zSt f s) (zNs f s) := by
  obtain ⟨h3, h4, h5⟩ := h
  have hne : f ≠ s := fun q => by subst q; exact h4 h3
  have one : zAc f s ≤ 1 → zamt (zAl f s) ≤ 1 → zLine f s ∧ zFree b f (zSt f s) (zNs f s) := fun q1 q2 => by
    refine ⟨⟨hne, ?_⟩, fun k k1 k2 => ?_⟩
    · unfold zAc zAl at *
      have a1 := zamt_b (v := s % 8 - f % 8) (by omega)
      have a2 := zamt_b (v := s / 8 - f / 8) (by omega)
      by_cases z1 : zamt (s % 8 - f % 8) = 0
      · exact .inl (by have := a1.2.2.mp z1; omega)
      · by_cases z2 : zamt (s / 8 - f / 8) = 0
        · exact .inr (.inl (by have := a2.2.2.mp z2; omega))
        · exact .inr (.inr (by omega))
    · unfold zNs at k2
      omega
  have mz : zAc f s * zAl f s = 0 → f % 8 = s % 8 ∨ f / 8 = s / 8 := fun q => by
    rcases Int.mul_eq_zero.mp q with q | q
    · exact .inl (by have := (zamt_b (v := s % 8 - f % 8) (by omega)).2.2.mp q; omega)
    · exact .inr (by have : s / 8 - f / 8 = 0 := q; omega)
  split at h5
  · rename_i g
    unfold yGoes at h5
    have step : ∀ d : Int, (d = 1 ∨ d = -1) → (s = f + 8 * d ∨ s = f + 16 * d ∧ b (f + 8 * d) = 0) → zLine f s ∧ zFree b f (zSt f s) (zNs f s) := fun d hd q => by
      have c1 : s % 8 = f % 8 := by omega
      refine ⟨⟨hne, .inl c1.symm⟩, fun k k1 k2 => ?_⟩
      have e1 : zAc f s = 0 := by unfold zAc zamt; split <;> omega
      have e2 : zSt f s = 8 * d := by unfold zSt zsgn; (repeat (split)) <;> omega
      unfold zNs at k2
      rw [e1] at k2
      rw [e2]
      rcases q with q | ⟨q, q2⟩
      · have : zamt (zAl f s) = 1 := by unfold zAl zamt; split <;> omega
        omega
      · have : zamt (zAl f s) = 2 := by unfold zAl zamt; split <;> omega
        have hk : k = 1 := by omega
        subst hk
        rw [show f + ((1 : Nat) : Int) * (8 * d) = f + 8 * d by omega]
        exact q2
    rcases h5 with ⟨q1, -⟩ | ⟨q1, q2, -, q3⟩
    · by_cases g8 : 8 < b f
      · rw [if_pos g8] at q1
        exact step (-1) (.inr rfl) (.inl (by omega))
      · rw [if_neg g8] at q1
        exact step 1 (.inl rfl) (.inl (by omega))
    · by_cases g8 : 8 < b f
      · rw [if_pos g8] at q1
        refine step (-1) (.inr rfl) (.inr ⟨by omega, ?_⟩)
        rw [show f + 8 * -1 = (f + s) / 2 by omega]
        exact q3
      · rw [if_neg g8] at q1
        refine step 1 (.inl rfl) (.inr ⟨by omega, ?_⟩)
        rw [show f + 8 * 1 = (f + s) / 2 by omega]
        exact q3
  · rcases h5 with ⟨-, q1, q2⟩ | ⟨q, -⟩ | ⟨-, q1, q2, q3⟩ | ⟨-, q1, q2, q3⟩ | ⟨-, q1, q2, q3⟩ | ⟨-, q1, q2, q3⟩
    · refine one (by omega) ?_
      rw [q2]
      unfold zamt
      split <;> split <;> omega
    · exact absurd q h2
    · exact ⟨⟨hne, .inr (.inr q1)⟩, q3⟩
    · exact ⟨⟨hne, (mz q1).elim .inl fun q => .inr (.inl q)⟩, q3⟩
    · exact ⟨⟨hne, q2.elim (fun q => (mz q).elim .inl fun q => .inr (.inl q)) fun q => .inr (.inr q)⟩, q3⟩
    · exact one (by omega) (by omega)
/-- a number for each move, no two alike -/
def ySlot (b : Int → Int) (v : Int) : Int := if b (v / 64) % 8 = 2 then 8 * (v / 64) + ((if zAc (v / 64) (v % 64) = 1 then 0 else 4) + (if v / 64 % 8 < v % 64 % 8 then 2 else 0) + (if v / 64 / 8 < v % 64 / 8 then 1 else 0)) else 8 * (v % 64) + (if 4 < (zsgn (v % 64 / 8 - v / 64 / 8) + 1) * 3 + (zsgn (v % 64 % 8 - v / 64 % 8) + 1) then (zsgn (v % 64 / 8 - v / 64 / 8) + 1) * 3 + (zsgn (v % 64 % 8 - v / 64 % 8) + 1) - 1 else (zsgn (v % 64 / 8 - v / 64 / 8) + 1) * 3 + (zsgn (v % 64 % 8 - v / 64 % 8) + 1))
theorem zsgn_in (v : Int) : -1 ≤ zsgn v ∧ zsgn v ≤ 1 ∧ (zsgn v = 0 ↔ v = 0) := by
  unfold zsgn
  split
  · omega
  · split <;> omega
theorem ySlot_in {b : Int → Int} {v : Int} (hv : 0 ≤ v ∧ v < 4096) : 0 ≤ ySlot b v ∧ ySlot b v < 512 := by
  have s1 := zsgn_in (v % 64 / 8 - v / 64 / 8)
  have s2 := zsgn_in (v % 64 % 8 - v / 64 % 8)
  unfold ySlot
  generalize zsgn (v % 64 / 8 - v / 64 / 8) = x at *
  generalize zsgn (v % 64 % 8 - v / 64 % 8) = y at *
  split
  · split <;> split <;> split <;> omega
  · split <;> omega
theorem yBin {p q r p' q' r' : Prop} [Decidable p] [Decidable q] [Decidable r] [Decidable p'] [Decidable q'] [Decidable r'] (h : (if p then (0 : Int) else 4) + (if q then 2 else 0) + (if r then 1 else 0) = (if p' then 0 else 4) + (if q' then 2 else 0) + (if r' then 1 else 0)) : (p ↔ p') ∧ (q ↔ q') ∧ (r ↔ r') := by
  by_cases hp : p <;> by_cases hq : q <;> by_cases hr : r <;> by_cases hp' : p' <;> by_cases hq' : q' <;> by_cases hr' : r' <;> simp only [hp, hq, hr, hp', hq', hr', if_true, if_false] at h ⊢ <;> first | trivial | omega | exact absurd h (by decide)
theorem ySlot_inj {b : Int → Int} {c u v : Int} (hc : c = 0 ∨ c = 8) (hu : 0 ≤ u ∧ u < 4096) (hv : 0 ≤ v ∧ v < 4096) (h1 : yMay b c (u / 64) (u % 64)) (h2 : yMay b c (v / 64) (v % 64)) (h : ySlot b u = ySlot b v) : u = v := by
  have fu : 0 ≤ u / 64 ∧ u / 64 < 64 := by omega
  have fv : 0 ≤ v / 64 ∧ v / 64 < 64 := by omega
  have su : 0 ≤ u % 64 ∧ u % 64 < 64 := by omega
  have sv : 0 ≤ v % 64 ∧ v % 64 < 64 := by omega
  have kn : ∀ f s : Int, 0 ≤ f ∧ f < 64 → 0 ≤ s ∧ s < 64 → yMay b c f s → b f % 8 = 2 → zAc f s * zamt (zAl f s) = 2 := fun f s _ _ q1 q2 => by
    obtain ⟨-, -, q3⟩ := q1
    rw [if_neg (by omega)] at q3
    rcases q3 with ⟨q, -⟩ | ⟨-, q⟩ | ⟨q, -⟩ | ⟨q, -⟩ | ⟨q, -⟩ | ⟨q, -⟩ <;> first | exact q | omega
  suffices q : u / 64 = v / 64 ∧ u % 64 = v % 64 by omega
  unfold ySlot at h
  generalize u / 64 = f at *
  generalize u % 64 = s at *
  generalize v / 64 = f' at *
  generalize v % 64 = s' at *
  have a1 := zsgn_in (s / 8 - f / 8)
  have a2 := zsgn_in (s % 8 - f % 8)
  have a3 := zsgn_in (s' / 8 - f' / 8)
  have a4 := zsgn_in (s' % 8 - f' % 8)
  have d1 : ∀ x : Int, 0 ≤ x → x < 8 → ∀ y : Int, 0 ≤ y → y < 8 → ∀ p q : Int, 8 * p + x = 8 * q + y → p = q ∧ x = y := fun x _ _ y _ _ p q _ => by omega
  by_cases g1 : b f % 8 = 2
  · rw [if_pos g1] at h
    by_cases g2 : b f' % 8 = 2
    · rw [if_pos g2] at h
      obtain ⟨e1, e2⟩ := d1 _ (by split <;> split <;> split <;> omega) (by split <;> split <;> split <;> omega) _ (by split <;> split <;> split <;> omega) (by split <;> split <;> split <;> omega) _ _ h
      subst e1
      refine ⟨rfl, ?_⟩
      have k1 := kn _ _ fu su h1 g1
      have k2 := kn _ _ fu sv h2 g1
      have two : ∀ x y : Int, 0 ≤ x → 0 ≤ y → x * y = 2 → (x = 1 ∧ y = 2) ∨ (x = 2 ∧ y = 1) := fun x y hx hy hxy => by
        have k : x = 0 ∨ x = 1 ∨ x = 2 ∨ 3 ≤ x := by omega
        rcases k with k | k | k | k
        · rw [k] at hxy
          omega
        · rw [k] at hxy
          exact .inl ⟨k, by omega⟩
        · rw [k] at hxy
          exact .inr ⟨k, by omega⟩
        · exfalso
          have k2 : y = 0 ∨ 1 ≤ y := by omega
          rcases k2 with k2 | k2
          · rw [k2] at hxy
            omega
          · have := Int.mul_le_mul k k2 (by decide) (by omega)
            omega
      unfold zAc zAl at *
      have b1 := zamt_b (v := s % 8 - f % 8) (by omega)
      have b2 := zamt_b (v := s / 8 - f / 8) (by omega)
      have b3 := zamt_b (v := s' % 8 - f % 8) (by omega)
      have b4 := zamt_b (v := s' / 8 - f / 8) (by omega)
      have k1 := two _ _ b1.1 b2.1 k1
      have k2 := two _ _ b3.1 b4.1 k2
      obtain ⟨t1, t2, t3⟩ := yBin e2
      clear d1 kn two b1 b2 b3 b4 a1 a2 a3 a4 h e2
      unfold zamt at *
      omega
    · rw [if_neg g2] at h
      obtain ⟨e1, -⟩ := d1 _ (by split <;> split <;> split <;> omega) (by split <;> split <;> split <;> omega) _ (by split <;> omega) (by split <;> omega) _ _ h
      subst e1
      exact absurd h1.1 h2.2.1
  · rw [if_neg g1] at h
    by_cases g2 : b f' % 8 = 2
    · rw [if_pos g2] at h
      obtain ⟨e1, -⟩ := d1 _ (by split <;> omega) (by split <;> omega) _ (by split <;> split <;> split <;> omega) (by split <;> split <;> split <;> omega) _ _ h
      subst e1
      exact absurd h2.1 h1.2.1
    · rw [if_neg g2] at h
      obtain ⟨l1, r1⟩ := yMay_line fu su h1 g1
      obtain ⟨l2, r2⟩ := yMay_line fv sv h2 g2
      have z1 : ¬ (zsgn (s / 8 - f / 8) = 0 ∧ zsgn (s % 8 - f % 8) = 0) := fun q => l1.1 (by have := a1.2.2.mp q.1; have := a2.2.2.mp q.2; omega)
      have z2 : ¬ (zsgn (s' / 8 - f' / 8) = 0 ∧ zsgn (s' % 8 - f' % 8) = 0) := fun q => l2.1 (by have := a3.2.2.mp q.1; have := a4.2.2.mp q.2; omega)
      obtain ⟨n1, n2⟩ := zLine_n l1 fu su
      obtain ⟨n3, n4⟩ := zLine_n l2 fv sv
      have est : zSt f s = 8 * zsgn (s / 8 - f / 8) + zsgn (s % 8 - f % 8) := rfl
      have est' : zSt f' s' = 8 * zsgn (s' / 8 - f' / 8) + zsgn (s' % 8 - f' % 8) := rfl
      generalize zsgn (s / 8 - f / 8) = x1 at *
      generalize zsgn (s % 8 - f % 8) = x2 at *
      generalize zsgn (s' / 8 - f' / 8) = x3 at *
      generalize zsgn (s' % 8 - f' % 8) = x4 at *
      obtain ⟨e1, e2⟩ := d1 _ (by split <;> omega) (by split <;> omega) _ (by split <;> omega) (by split <;> omega) _ _ h
      have e3 : x1 = x3 ∧ x2 = x4 := by
        split at e2 <;> split at e2 <;> omega
      obtain ⟨rfl, rfl⟩ := e3
      rw [← est'] at est
      rw [est] at n2 r1
      generalize zSt f' s' = st at *
      generalize zNs f s = p at *
      generalize zNs f' s' = p' at *
      subst e1
      have hb1 : b f ≠ 0 := fun q => by have := h1.1; rw [q] at this; unfold zcol at this; rw [if_pos rfl] at this; omega
      have hb2 : b f' ≠ 0 := fun q => by have := h2.1; rw [q] at this; unfold zcol at this; rw [if_pos rfl] at this; omega
      have mulsub : ∀ i j : Nat, j ≤ i → ((i - j : Nat) : Int) * st = (i : Int) * st - (j : Int) * st := fun i j hij => by
        rw [Int.ofNat_sub hij, Int.sub_mul]
      rcases Nat.lt_trichotomy p p' with q | q | q
      · have := r2 (p' - p) (by omega) (by omega)
        rw [mulsub p' p (by omega), show f' + ((p' : Int) * st - (p : Int) * st) = f by omega] at this
        exact absurd this hb1
      · subst q
        exact ⟨by omega, rfl⟩
      · have := r1 (p - p') (by omega) (by omega)
        rw [mulsub p p' (by omega), show f + ((p : Int) * st - (p' : Int) * st) = f' by omega] at this
        exact absurd this hb2
theorem yMv_le {b : Int → Int} {c : Int} (hc : c = 0 ∨ c = 8) : (yMv b c).length ≤ 512 := by
  have h1 : ((yMv b c).map fun v => (ySlot b v).toNat).Nodup := by
    unfold List.Nodup
    rw [List.pairwise_map]
    refine List.Pairwise.imp_of_mem (R := (· < ·)) (fun {u v} hu hv huv q => ?_) (yMvs_asc 4096)
    obtain ⟨u1, u2, u3⟩ := yMvs_mem 4096 hu
    obtain ⟨v1, v2, v3⟩ := yMvs_mem 4096 hv
    have i1 := ySlot_in (b := b) (v := u) ⟨u1, u2⟩
    have i2 := ySlot_in (b := b) (v := v) ⟨v1, v2⟩
    have := ySlot_inj hc ⟨u1, u2⟩ ⟨v1, v2⟩ u3.1 v3.1 (by omega)
    omega
  have h2 := yPig 512 _ h1 fun x hx => by
    obtain ⟨v, hv, rfl⟩ := List.mem_map.mp hx
    obtain ⟨v1, v2, -⟩ := yMvs_mem 4096 hv
    have := ySlot_in (b := b) (v := v) ⟨v1, v2⟩
    omega
  rw [List.length_map] at h2
  exact h2
