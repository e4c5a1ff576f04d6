/-! THE BRIDGE: how the small machine's values, locals and worlds stand in the large one's -/
def zph (base : Nat) (ext : Nat → Nat) (a : Nat) : Nat := if a < zXB then base + a else ext (a - zXB)
def zRV (base : Nat) (ext : Nat → Nat) : zmV → Value → Prop
  | .inl z, v => ∃ x : Int32, v = .int x ∧ x.toInt = z
  | .inr (.inl z), v => ∃ x : Int64, v = .long x ∧ x.toInt = z
  | .inr (.inr a), v => v = .ref (zph base ext a)
def zRS (base : Nat) (ext : Nat → Nat) : List zmV → List Value → Prop
  | [], [] => True
  | v :: l, u :: k => zRV base ext v u ∧ zRS base ext l k
  | _, _ => False
theorem zRS_nil {base : Nat} {ext : Nat → Nat} {k : List Value} (h : zRS base ext [] k) : k = [] := by
  cases k with
  | nil => rfl
  | cons u k => exact h.elim
theorem zRS_cons {base : Nat} {ext : Nat → Nat} {v : zmV} {l : List zmV} {k : List Value} (h : zRS base ext (v :: l) k) : ∃ u k', k = u :: k' ∧ zRV base ext v u ∧ zRS base ext l k' := by
  cases k with
  | nil => exact h.elim
  | cons u k => exact ⟨u, k, rfl, h.1, h.2⟩
theorem zRS_int {base : Nat} {ext : Nat → Nat} {z : Int} {l : List zmV} {k : List Value} (h : zRS base ext (.inl z :: l) k) : ∃ (x : Int32) (k' : List Value), k = .int x :: k' ∧ x.toInt = z ∧ zRS base ext l k' := by
  obtain ⟨u, k', h1, ⟨x, h2, h3⟩, h4⟩ := zRS_cons h
  exact ⟨x, k', by rw [h1, h2], h3, h4⟩
theorem zRS_long {base : Nat} {ext : Nat → Nat} {z : Int} {l : List zmV} {k : List Value} (h : zRS base ext (.inr (.inl z) :: l) k) : ∃ (x : Int64) (k' : List Value), k = .long x :: k' ∧ x.toInt = z ∧ zRS base ext l k' := by
  obtain ⟨u, k', h1, ⟨x, h2, h3⟩, h4⟩ := zRS_cons h
  exact ⟨x, k', by rw [h1, h2], h3, h4⟩
theorem zRS_ref {base : Nat} {ext : Nat → Nat} {a : Nat} {l : List zmV} {k : List Value} (h : zRS base ext (.inr (.inr a) :: l) k) : ∃ (k' : List Value), k = .ref (zph base ext a) :: k' ∧ zRS base ext l k' := by
  obtain ⟨u, k', h1, h2, h4⟩ := zRS_cons h
  exact ⟨k', by rw [h1, show u = _ from h2], h4⟩
theorem zRS_mk {base : Nat} {ext : Nat → Nat} {v : zmV} {u : Value} {l : List zmV} {k : List Value} (h1 : zRV base ext v u) (h2 : zRS base ext l k) : zRS base ext (v :: l) (u :: k) := ⟨h1, h2⟩
theorem zRV_cat {base : Nat} {ext : Nat → Nat} {v : zmV} {u : Value} (h : zRV base ext v u) : u.category = zcat v := by
  rcases v with z | z | a
  · obtain ⟨x, rfl, -⟩ := h
    rfl
  · obtain ⟨x, rfl, -⟩ := h
    rfl
  · rw [show u = _ from h]
    rfl
theorem zRS_cat {base : Nat} {ext : Nat → Nat} : ∀ (l : List zmV) (k : List Value), zRS base ext l k → (k.map fun v => v.category).sum = (l.map zcat).sum ∧ k.length = l.length
  | [], k, h => by
    rw [zRS_nil h]
    exact ⟨rfl, rfl⟩
  | v :: l, k, h => by
    obtain ⟨u, k', rfl, h1, h2⟩ := zRS_cons h
    obtain ⟨e1, e2⟩ := zRS_cat l k' h2
    refine ⟨?_, by rw [List.length_cons, List.length_cons, e2]⟩
    rw [List.map_cons, List.map_cons, List.sum_cons, List.sum_cons, e1, zRV_cat h1]
theorem zRS_take {base : Nat} {ext : Nat → Nat} : ∀ (n : Nat) (l : List zmV) (k : List Value), zRS base ext l k → zRS base ext (l.take n) (k.take n)
  | 0, l, k, _ => by simp [zRS]
  | n + 1, [], k, h => by
    rw [zRS_nil h]
    simp [zRS]
  | n + 1, v :: l, k, h => by
    obtain ⟨u, k', rfl, h1, h2⟩ := zRS_cons h
    exact ⟨h1, zRS_take n l k' h2⟩
theorem zRS_drop {base : Nat} {ext : Nat → Nat} : ∀ (n : Nat) (l : List zmV) (k : List Value), zRS base ext l k → zRS base ext (l.drop n) (k.drop n)
  | 0, l, k, h => by simpa using h
  | n + 1, [], k, h => by
    rw [zRS_nil h]
    simp [zRS]
  | n + 1, v :: l, k, h => by
    obtain ⟨u, k', rfl, h1, h2⟩ := zRS_cons h
    exact zRS_drop n l k' h2
theorem zRS_app {base : Nat} {ext : Nat → Nat} : ∀ (l : List zmV) (k : List Value) (l2 : List zmV) (k2 : List Value), zRS base ext l k → zRS base ext l2 k2 → zRS base ext (l ++ l2) (k ++ k2)
  | [], k, l2, k2, h, h' => by
    rw [zRS_nil h]
    exact h'
  | v :: l, k, l2, k2, h, h' => by
    obtain ⟨u, k', rfl, h1, h2⟩ := zRS_cons h
    exact ⟨h1, zRS_app l k' l2 k2 h2 h'⟩
theorem zRS_rev {base : Nat} {ext : Nat → Nat} : ∀ (l : List zmV) (k : List Value), zRS base ext l k → zRS base ext l.reverse k.reverse
  | [], k, h => by
    rw [zRS_nil h]
    trivial
  | v :: l, k, h => by
    obtain ⟨u, k', rfl, h1, h2⟩ := zRS_cons h
    rw [List.reverse_cons, List.reverse_cons]
    exact zRS_app _ _ _ _ (zRS_rev l k' h2) ⟨h1, trivial⟩
/-! locals -/
def zRL (base : Nat) (ext : Nat → Nat) (L : zmL) (ls : Array Slot) (nL : Nat) : Prop :=
  ∃ lv, lv_has ls nL lv ∧ L.length = nL ∧ ∀ (i : Nat) (v : zmV), L[i]? = some (some v) → ∃ u, (i, u) ∈ lv ∧ zRV base ext v u
theorem zRL_get {base : Nat} {ext : Nat → Nat} {L : zmL} {ls : Array Slot} {nL i : Nat} {v : zmV} (h : zRL base ext L ls nL) (hi : L[i]? = some (some v)) : ∃ u, ls[i]? = some (.val u) ∧ zRV base ext v u := by
  obtain ⟨lv, h1, -, h3⟩ := h
  obtain ⟨u, h4, h5⟩ := h3 i v hi
  exact ⟨u, h1.2.2 _ h4, h5⟩
theorem zKill_len (i : Nat) (L : zmL) : (zKill i L).length = L.length := by
  unfold zKill
  split
  · rfl
  · split
    · simp
    · rfl
theorem zKill_get {i j : Nat} {L : zmL} {v : zmV} (h : (zKill i L)[j]? = some (some v)) : L[j]? = some (some v) ∧ (j + 1 = i → zcat v = 1) := by
  unfold zKill at h
  split at h
  · exact ⟨h, fun q => by omega⟩
  · rename_i k
    split at h
    · rename_i z hz
      by_cases hj : j = k
      · subst hj
        rw [List.getElem?_set_self (List.getElem?_eq_some_iff.mp hz).1] at h
        cases h
      · rw [List.getElem?_set_ne (Ne.symm hj)] at h
        exact ⟨h, fun q => by omega⟩
    · rename_i hz
      refine ⟨h, fun q => ?_⟩
      have hj : j = k := by omega
      subst hj
      rcases v with z | z | a
      · rfl
      · exact absurd h (hz z)
      · rfl
theorem zRL_st1 {base : Nat} {ext : Nat → Nat} {L : zmL} {ls' : Array Slot} {nL i : Nat} {v : zmV} {u : Value} {lv : List (Nat × Value)} (hlen : L.length = nL) (hr : ∀ (i : Nat) (v : zmV), L[i]? = some (some v) → ∃ u, (i, u) ∈ lv ∧ zRV base ext v u) (hv : zRV base ext v u)
    (h : lv_has ls' nL ((i, u) :: lv.filter (fun q => !(q.1 == i) && !(q.1 + 1 == i && q.2.category == 2)))) : zRL base ext ((zKill i L).set i (some v)) ls' nL := by
  refine ⟨_, h, by rw [List.length_set, zKill_len]; exact hlen, fun j v' hj => ?_⟩
  by_cases hji : j = i
  · subst hji
    have hl : j < (zKill j L).length := by
      have := (List.getElem?_eq_some_iff.mp hj).1
      rwa [List.length_set] at this
    rw [List.getElem?_set_self hl] at hj
    cases hj
    exact ⟨u, List.mem_cons_self, hv⟩
  · rw [List.getElem?_set_ne (Ne.symm hji)] at hj
    obtain ⟨h1, h2⟩ := zKill_get hj
    obtain ⟨u', h3, h4⟩ := hr j v' h1
    refine ⟨u', List.mem_cons_of_mem _ (List.mem_filter.mpr ⟨h3, ?_⟩), h4⟩
    simp only [Bool.and_eq_true, Bool.not_eq_true', beq_eq_false_iff_ne, ne_eq, Bool.and_eq_false_iff]
    refine ⟨hji, ?_⟩
    by_cases q : j + 1 = i
    · right
      rw [zRV_cat h4, h2 q]
      decide
    · left
      exact q
theorem zRL_st2 {base : Nat} {ext : Nat → Nat} {L : zmL} {ls' : Array Slot} {nL i : Nat} {v : zmV} {u : Value} {lv : List (Nat × Value)} (hlen : L.length = nL) (hr : ∀ (i : Nat) (v : zmV), L[i]? = some (some v) → ∃ u, (i, u) ∈ lv ∧ zRV base ext v u) (hv : zRV base ext v u)
    (h : lv_has ls' nL ((i, u) :: lv.filter (fun q => !(q.1 == i) && (!(q.1 == i + 1) && !(q.1 + 1 == i && q.2.category == 2))))) : zRL base ext (((zKill i L).set i (some v)).set (i + 1) none) ls' nL := by
  refine ⟨_, h, by rw [List.length_set, List.length_set, zKill_len]; exact hlen, fun j v' hj => ?_⟩
  by_cases hj1 : j = i + 1
  · subst hj1
    have hl : i + 1 < ((zKill i L).set i (some v)).length := by
      have := (List.getElem?_eq_some_iff.mp hj).1
      rwa [List.length_set] at this
    rw [List.getElem?_set_self hl] at hj
    cases hj
  rw [List.getElem?_set_ne (Ne.symm hj1)] at hj
  by_cases hji : j = i
  · subst hji
    have hl : j < (zKill j L).length := by
      have := (List.getElem?_eq_some_iff.mp hj).1
      rwa [List.length_set] at this
    rw [List.getElem?_set_self hl] at hj
    cases hj
    exact ⟨u, List.mem_cons_self, hv⟩
  · rw [List.getElem?_set_ne (Ne.symm hji)] at hj
    obtain ⟨h1, h2⟩ := zKill_get hj
    obtain ⟨u', h3, h4⟩ := hr j v' h1
    refine ⟨u', List.mem_cons_of_mem _ (List.mem_filter.mpr ⟨h3, ?_⟩), h4⟩
    simp only [Bool.and_eq_true, Bool.not_eq_true', beq_eq_false_iff_ne, ne_eq, Bool.and_eq_false_iff]
    refine ⟨hji, hj1, ?_⟩
    by_cases q : j + 1 = i
    · right
      rw [zRV_cat h4, h2 q]
      decide
    · left
      exact q
theorem zinit_len {args : List zmV} {n : Nat} (h : (args.flatMap zslots).length ≤ n) : (zinit args n).length = n := by
  unfold zinit
  rw [List.length_append, List.length_replicate]
  omega
theorem zslots_cat (v : zmV) : (zslots v).length = zcat v := by
  rcases v with z | z | a <;> rfl
theorem zRL_args {base : Nat} {ext : Nat → Nat} : ∀ (args : List zmV) (vs : List Value) (i0 : Nat), zRS base ext args vs → ∀ (i : Nat) (v : zmV), (args.flatMap zslots)[i]? = some (some v) → ∃ u, (i0 + i, u) ∈ lv_args i0 vs ∧ zRV base ext v u
  | [], vs, i0, h, i, v, hi => by simp at hi
  | a :: args, vs, i0, h, i, v, hi => by
    obtain ⟨u, vs', rfl, h1, h2⟩ := zRS_cons h
    rw [List.flatMap_cons] at hi
    have hc := zRV_cat h1
    by_cases hl : i < (zslots a).length
    · rw [List.getElem?_append_left hl] at hi
      have hia : i = 0 ∧ v = a := by
        rcases a with z | z | q
        · have : i = 0 := by simp [zslots] at hl; exact hl
          subst this
          simp [zslots] at hi
          exact ⟨rfl, hi.symm⟩
        · have hi2 : i = 0 ∨ i = 1 := by simp [zslots] at hl; omega
          rcases hi2 with rfl | rfl
          · simp [zslots] at hi
            exact ⟨rfl, hi.symm⟩
          · simp [zslots] at hi
        · have : i = 0 := by simp [zslots] at hl; exact hl
          subst this
          simp [zslots] at hi
          exact ⟨rfl, hi.symm⟩
      obtain ⟨rfl, rfl⟩ := hia
      exact ⟨u, by rw [lv_args]; exact List.mem_cons_self, h1⟩
    · rw [List.getElem?_append_right (by omega)] at hi
      obtain ⟨u', h3, h4⟩ := zRL_args args vs' (if u.category = 2 then i0 + 2 else i0 + 1) h2 _ v hi
      refine ⟨u', ?_, h4⟩
      rw [lv_args]
      refine List.mem_cons_of_mem _ ?_
      have e : i0 + i = (if u.category = 2 then i0 + 2 else i0 + 1) + (i - (zslots a).length) := by
        rw [hc]
        have hz := zslots_cat a
        rcases a with z | z | q
        · simp [zcat, zslots] at hz hl ⊢; omega
        · simp [zcat, zslots] at hz hl ⊢; omega
        · simp [zcat, zslots] at hz hl ⊢; omega
      rw [e]
      exact h3
theorem zRS_lgsl {base : Nat} {ext : Nat → Nat} : ∀ (args : List zmV) (vs : List Value), zRS base ext args vs → (lg_sl vs).length = (args.flatMap zslots).length
  | [], vs, h => by
    rw [zRS_nil h]
    rfl
  | a :: args, vs, h => by
    obtain ⟨u, vs', rfl, h1, h2⟩ := zRS_cons h
    have ih := zRS_lgsl args vs' h2
    unfold lg_sl at ih ⊢
    rw [List.flatMap_cons, List.flatMap_cons, List.length_append, List.length_append, ih, zslots_cat, ← zRV_cat h1]
    rcases lv_cat u with q | q <;> rw [q] <;> simp
theorem zRL_init {base : Nat} {ext : Nat → Nat} {args : List zmV} {vs : List Value} {n : Nat} (h : zRS base ext args vs) (hn : (args.flatMap zslots).length ≤ n) : zRL base ext (zinit args n) ((lg_sl vs ++ List.replicate (n - (lg_sl vs).length) Slot.unset).toArray) n := by
  have hg := zRS_lgsl args vs h
  refine ⟨_, lv_entry vs (n := n) (by rw [hg]; exact hn), zinit_len hn, fun i v hi => ?_⟩
  have hi2 : (args.flatMap zslots)[i]? = some (some v) := by
    unfold zinit at hi
    by_cases hl : i < (args.flatMap zslots).length
    · rwa [List.getElem?_append_left hl] at hi
    · rw [List.getElem?_append_right (by omega)] at hi
      obtain ⟨h1, h2⟩ := List.getElem?_eq_some_iff.mp hi
      rw [List.getElem_replicate] at h2
      cases h2
  obtain ⟨u, h3, h4⟩ := zRL_args args vs 0 h i v hi2
  rw [Nat.zero_add] at h3
  exact ⟨u, h3, h4⟩
