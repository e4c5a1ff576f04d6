/-! disputes: all readings of a game -/
noncomputable def yFl (b : Int → Int) (c : Int) (p : List Int) : List Int := (yMv b c).filter (yMean b p)
noncomputable def yRdg : List (List Int) → (Int → Int) → Int → List (List Int)
  | [], _, _ => [[]]
  | p :: ps, b, c => (yFl b c p).flatMap fun v => (yRdg ps (yBv b v) (8 - c)).map fun s => v :: s
def yMany : List (List Int) → (Int → Int) → Int → Prop
  | [], _, _ => False
  | p :: ps, b, c => 40 < (yFl b c p).length ∨ ∃ v ∈ yFl b c p, yMany ps (yBv b v) (8 - c)
/-- the readings behind the first i moves that fit -/
noncomputable def yRdi (fl : List Int) (ps : List (List Int)) (b : Int → Int) (c : Int) (i : Nat) : List (List Int) := (fl.take i).flatMap fun v => (yRdg ps (yBv b v) (8 - c)).map fun s => v :: s
theorem yRdi_0 {fl : List Int} {ps : List (List Int)} {b : Int → Int} {c : Int} : yRdi fl ps b c 0 = [] := rfl
theorem yRdi_s {fl : List Int} {ps : List (List Int)} {b : Int → Int} {c : Int} {i : Nat} (h : i < fl.length) : yRdi fl ps b c (i + 1) = yRdi fl ps b c i ++ (yRdg ps (yBv b (fl.getD i 0)) (8 - c)).map fun s => fl.getD i 0 :: s := by
  have e : fl.take (i + 1) = fl.take i ++ [fl.getD i 0] := by
    rw [List.getD_eq_getElem?_getD, List.getElem?_eq_getElem h, List.take_succ, List.getElem?_eq_getElem h]
    rfl
  unfold yRdi
  rw [e, List.flatMap_append, List.flatMap_cons, List.flatMap_nil, List.append_nil]
theorem yRdi_all {p : List Int} {ps : List (List Int)} {b : Int → Int} {c : Int} : yRdi (yFl b c p) ps b c (yFl b c p).length = yRdg (p :: ps) b c := by
  unfold yRdi
  rw [List.take_length]
  rfl
theorem yRdi_len {fl : List Int} {ps : List (List Int)} {b : Int → Int} {c : Int} {B : Nat} : ∀ i : Nat, i ≤ fl.length → (∀ j : Nat, j < i → (yRdg ps (yBv b (fl.getD j 0)) (8 - c)).length ≤ B) → (yRdi fl ps b c i).length ≤ i * B
  | 0, _, _ => by rw [yRdi_0]; exact Nat.zero_le _
  | i + 1, h, hB => by
    have := yRdi_len (B := B) i (by omega) fun j hj => hB j (by omega)
    have h2 := hB i (by omega)
    rw [yRdi_s (by omega), List.length_append, List.length_map, Nat.add_mul, Nat.one_mul]
    omega
theorem yMany_not {p : List Int} {ps : List (List Int)} {b : Int → Int} {c : Int} (h : ¬ yMany (p :: ps) b c) : (yFl b c p).length ≤ 40 ∧ ∀ v ∈ yFl b c p, ¬ yMany ps (yBv b v) (8 - c) := ⟨Nat.le_of_not_lt fun q => h (.inl q), fun v hv q => h (.inr ⟨v, hv, q⟩)⟩
theorem yRdg_len : ∀ (ps : List (List Int)) (b : Int → Int) (c : Int), ¬ yMany ps b c → (yRdg ps b c).length ≤ 40 ^ ps.length
  | [], b, c, _ => Nat.le_refl _
  | p :: ps, b, c, h => by
    obtain ⟨h1, h2⟩ := yMany_not h
    have := yRdi_len (fl := yFl b c p) (ps := ps) (b := b) (c := c) (B := 40 ^ ps.length) (yFl b c p).length (Nat.le_refl _) fun j hj => yRdg_len ps _ _ (h2 _ (yMem_get.mpr ⟨j, hj, rfl⟩))
    rw [yRdi_all] at this
    rw [List.length_cons, Nat.pow_succ, Nat.mul_comm]
    exact Nat.le_trans this (Nat.mul_le_mul_right _ h1)
theorem yRdg_in : ∀ (ps : List (List Int)) (b : Int → Int) (c : Int), ∀ s ∈ yRdg ps b c, s.length = ps.length ∧ ∀ x ∈ s, 0 ≤ x ∧ x < 4096
  | [], b, c, s, hs => by
    rw [List.mem_singleton.mp hs]
    exact ⟨rfl, fun x hx => absurd hx List.not_mem_nil⟩
  | p :: ps, b, c, s, hs => by
    obtain ⟨v, hv, hs⟩ := List.mem_flatMap.mp hs
    obtain ⟨t, ht, rfl⟩ := List.mem_map.mp hs
    obtain ⟨h1, h2⟩ := yRdg_in ps _ _ t ht
    refine ⟨by rw [List.length_cons, List.length_cons, h1], fun x hx => ?_⟩
    rcases List.mem_cons.mp hx with rfl | hx
    · exact (yMv_go (List.mem_filter.mp hv).1).1
    · exact h2 x hx
/-- moves marked, by parts: those of the paths, which begin at part k0 -/
def yMks (k0 : Nat) (RS : List (List Int)) (k : Nat) (x : Int) : Prop := ∃ s ∈ RS, k0 ≤ k ∧ k < k0 + s.length ∧ s.getD (k - k0) 0 = x
theorem yMks_nil {k0 k : Nat} {x : Int} : ¬ yMks k0 [] k x := fun ⟨_, h, _⟩ => absurd h List.not_mem_nil
theorem yMks_app {k0 k : Nat} {x : Int} {A B : List (List Int)} : yMks k0 (A ++ B) k x ↔ yMks k0 A k x ∨ yMks k0 B k x := by
  constructor
  · rintro ⟨s, h1, h2⟩
    rcases List.mem_append.mp h1 with h1 | h1
    · exact .inl ⟨s, h1, h2⟩
    · exact .inr ⟨s, h1, h2⟩
  · rintro (⟨s, h1, h2⟩ | ⟨s, h1, h2⟩)
    · exact ⟨s, List.mem_append_left _ h1, h2⟩
    · exact ⟨s, List.mem_append_right _ h1, h2⟩
theorem yMks_cons {k0 k : Nat} {x v : Int} {R : List (List Int)} : yMks k0 (R.map fun s => v :: s) k x ↔ (R ≠ [] ∧ k = k0 ∧ x = v) ∨ yMks (k0 + 1) R k x := by
  constructor
  · rintro ⟨s, h1, h2, h3, h4⟩
    obtain ⟨t, ht, rfl⟩ := List.mem_map.mp h1
    by_cases g : k = k0
    · refine .inl ⟨List.ne_nil_of_mem ht, g, ?_⟩
      rw [g, Nat.sub_self] at h4
      exact h4.symm
    · refine .inr ⟨t, ht, by omega, by rw [List.length_cons] at h3; omega, ?_⟩
      rw [show k - k0 = (k - (k0 + 1)) + 1 by omega] at h4
      exact h4
  · rintro (⟨h1, h2, h3⟩ | ⟨t, ht, h2, h3, h4⟩)
    · obtain ⟨t, ht⟩ := List.exists_mem_of_ne_nil R h1
      refine ⟨v :: t, List.mem_map.mpr ⟨t, ht, rfl⟩, by omega, by rw [List.length_cons]; omega, ?_⟩
      rw [h2, Nat.sub_self, h3]
      rfl
    · refine ⟨v :: t, List.mem_map.mpr ⟨t, ht, rfl⟩, by omega, by rw [List.length_cons]; omega, ?_⟩
      rw [show k - k0 = (k - (k0 + 1)) + 1 by omega]
      exact h4
/-- the first reading -/
def yFo (pre : List Int) : Option (List Int) → List (List Int) → Option (List Int)
  | some s, _ => some s
  | none, [] => none
  | none, s :: _ => some (pre ++ s)
theorem yFo_nil {pre : List Int} {o : Option (List Int)} : yFo pre o [] = o := by cases o <;> rfl
theorem yFo_app {pre : List Int} {o : Option (List Int)} {A B : List (List Int)} : yFo pre (yFo pre o A) B = yFo pre o (A ++ B) := by
  cases o
  · cases A <;> rfl
  · rfl
theorem yFo_cons {pre : List Int} {o : Option (List Int)} {R : List (List Int)} {v : Int} : yFo (pre ++ [v]) o R = yFo pre o (R.map fun s => v :: s) := by
  cases o
  · cases R with
    | nil => rfl
    | cons s R =>
      show some (pre ++ [v] ++ s) = some (pre ++ v :: s)
      rw [List.append_assoc]
      rfl
  · rfl
/-- how many numbers below n are such -/
noncomputable def yNb (p : Int → Prop) : Nat → Int
  | 0 => 0
  | n + 1 => yNb p n + yT (p n)
theorem yNb_in {p : Int → Prop} : ∀ n : Nat, 0 ≤ yNb p n ∧ yNb p n ≤ n
  | 0 => by show (0 : Int) ≤ 0 ∧ (0 : Int) ≤ ((0 : Nat) : Int); omega
  | n + 1 => by
    have := yNb_in (p := p) n
    have h1 := yT_nn (p := p n)
    have h2 := yT_le (p := p n)
    rw [yNb]
    omega
theorem yNb_add {p : Int → Prop} {v : Int} (hv : ¬ p v) (h0 : 0 ≤ v) : ∀ n : Nat, yNb (fun u => p u ∨ u = v) n = yNb p n + if v < n then 1 else 0
  | 0 => by
    rw [if_neg (by omega)]
    rfl
  | n + 1 => by
    rw [yNb, yNb, yNb_add hv h0 n]
    by_cases g : (n : Int) = v
    · rw [if_neg (by omega), if_pos (by omega), yT_pos (Or.inr g), yT_neg (by rw [g]; exact hv)]
    · have : yT (p n ∨ (n : Int) = v) = yT (p n) := yT_c ⟨fun q => q.elim id fun q => absurd q g, .inl⟩
      rw [this]
      by_cases g2 : v < n
      · rw [if_pos g2, if_pos (by omega)]
        omega
      · rw [if_neg g2, if_neg (by omega)]
        omega
theorem yNb_cg {p q : Int → Prop} : ∀ n : Nat, (∀ v : Int, 0 ≤ v → v < n → (p v ↔ q v)) → yNb p n = yNb q n
  | 0, _ => rfl
  | n + 1, h => by
    rw [yNb, yNb, yNb_cg n fun v v1 v2 => h v v1 (by omega), yT_c (h n (by omega) (by omega))]
