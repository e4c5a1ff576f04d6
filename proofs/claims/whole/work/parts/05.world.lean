/-! worlds in the heap -/
/-- static tables that nobody writes, texts, and the script, by number -/
def zx_tab : List (String × String × List Int) := [("ChessWire$Board", "LEAP_COLUMN", [1, 2, 2, 1, -1, -2, -2, -1]), ("ChessWire$Board", "LEAP_ROW", [2, 1, -1, -2, -2, -1, 1, 2]), ("ChessWire$Board", "STEP_COLUMN", [1, 1, 0, -1, -1, -1, 0, 1]), ("ChessWire$Board", "STEP_ROW", [0, 1, 1, 1, 0, -1, -1, -1]), ("ChessWire$Namer", "PARTS", [1, 2, 17, 18, 3, 7, 19, 11, 23, 27, 15])]
def zx_str : List (List Int) := [[80, 78, 66, 82, 81, 75], [112, 110, 98, 114, 113, 107]]
def zx_b32 : List (List Int32) := [[80, 78, 66, 82, 81, 75], [112, 110, 98, 114, 113, 107]]
def zxs (L a : Nat) : Nat × Nat := if a < zXB + 5 then (100, (zx_tab.getD (a - zXB) ("", "", [])).2.2.length) else if a < zXB + 10 then (99, 0) else if a < zXB + 12 then (60, 0) else if a < zXB + 20 then (99, 0) else if a < zXB + 22 then (120, 6) else if a = zXB + 30 then (100, L) else (99, 0)
def zxm (xs : Nat → Int32) (a : Nat) (i : Int) : Int := if a < zXB + 5 then (zx_tab.getD (a - zXB) ("", "", [])).2.2.getD i.toNat 0 else if a < zXB + 20 then 0 else if a < zXB + 22 then (zx_str.getD (a - (zXB + 20)) []).getD i.toNat 0 else if a = zXB + 30 then (xs i.toNat).toInt else 0
def zxr (a : Nat) (i : Int) : Option Nat := if (a = zXB + 10 ∨ a = zXB + 11) ∧ i = 0 then some (a + 10) else none
/-- the cells that we own: all from a place on -/
def zA (base : Nat) : Nat → Prop := fun q => base ≤ q
def zRF (base : Nat) (ext : Nat → Nat) (w : zmW) (k ci j : Nat) (v : Value) : Prop :=
  if zisR ci j = true then v = (match w.2.2.2.1 k (j : Int) with | none => Value.null | some r => Value.ref (zph base ext r)) else ∃ x : Int32, v = .int x ∧ x.toInt = w.2.2.2.2 k (j : Int)
def zRA (base : Nat) (ext : Nat → Nat) (w : zmW) (k t n : Nat) : ((Nat → Int32) ⊕ (Nat → Int64) ⊕ (Nat → UInt32) ⊕ (Nat → UInt64) ⊕ (Nat → Option Nat)) → Prop
  | .inl f => (t = 0 ∨ t = 2) ∧ ∀ j : Nat, j < n → (f j).toInt = w.2.2.2.2 k (j : Int)
  | .inr (.inl f) => t = 1 ∧ ∀ j : Nat, j < n → (f j).toInt = w.2.2.2.2 k (j : Int)
  | .inr (.inr (.inr (.inr f))) => 3 ≤ t ∧ ∀ j : Nat, j < n → f j = (w.2.2.2.1 k (j : Int)).map (zph base ext)
  | _ => False
def zRC (base : Nat) (ext : Nat → Nat) (cA : Nat → ClassId) (w : zmW) (k : Nat) : va_E → Prop
  | .inr (ci, fs) => (w.2.2.1 k).1 = ci ∧ ci < 13 ∧ fs.length = zN ci ∧ ∀ j, j < zN ci → ∃ v, fs[j]? = some v ∧ zRF base ext w k ci j v
  | .inl (c, n, x) => ∃ t, t < 8 ∧ w.2.2.1 k = (100 + t, n) ∧ c = cA t ∧ zRA base ext w k t n x
def zWL (base n : Nat) (g : Nat → va_E) : va_W := (List.range n).map fun k => (base + k, g k)
theorem zWL_get {base n k : Nat} {g : Nat → va_E} (h : k < n) : (zWL base n g)[k]? = some (base + k, g k) := by
  unfold zWL
  rw [List.getElem?_map, List.getElem?_range h]
  rfl
theorem zWL_inv {base n k : Nat} {g : Nat → va_E} {q : Nat × va_E} (h : (zWL base n g)[k]? = some q) : k < n ∧ q = (base + k, g k) := by
  have hl : k < n := by
    have := (List.getElem?_eq_some_iff.mp h).1
    simpa [zWL] using this
  rw [zWL_get hl] at h
  exact ⟨hl, (Option.some.inj h).symm⟩
theorem zWL_D {base n : Nat} {g : Nat → va_E} : va_D (zA base) (zWL base n g) := by
  refine ⟨fun i j p q hi hj hpq => ?_, fun k q hk => ?_⟩
  · obtain ⟨-, rfl⟩ := zWL_inv hi
    obtain ⟨-, rfl⟩ := zWL_inv hj
    have : base + i = base + j := hpq
    omega
  · obtain ⟨-, rfl⟩ := zWL_inv hk
    exact Nat.le_add_right _ _
theorem zWL_set {base n k : Nat} {g : Nat → va_E} {e : va_E} (h : k < n) : (zWL base n g).set k (base + k, e) = zWL base n (va_up g k e) := by
  apply List.ext_getElem?
  intro j
  by_cases hj : j < n
  · rw [zWL_get hj]
    by_cases hk : j = k
    · subst hk
      rw [List.getElem?_set_self (by simp [zWL]; exact hj), va_up_self]
    · rw [List.getElem?_set_ne (Ne.symm hk), zWL_get hj, va_up_ne _ _ hk]
  · rw [List.getElem?_eq_none (by simp [zWL]; omega), List.getElem?_eq_none (by simp [zWL]; omega)]
theorem zWL_push {base n : Nat} {g : Nat → va_E} {e : va_E} : zWL base n g ++ [(base + n, e)] = zWL base (n + 1) (va_up g n e) := by
  unfold zWL
  rw [List.range_succ, List.map_append, List.map_cons, List.map_nil, va_up_self]
  congr 1
  apply List.map_congr_left
  intro k hk
  have := List.mem_range.mp hk
  rw [va_up_ne _ _ (by omega)]
def zRp (base : Nat) (ext : Nat → Nat) (D : va_G) (cA : Nat → ClassId) (L : Nat) (xs : Nat → Int32) (w : zmW) (H : Heap) : Prop :=
  (∃ g, va_P D zcl (zWL base w.1 g) H ∧ ∀ k, k < w.1 → zRC base ext cA w k (g k)) ∧ H.size = base + w.1 ∧ w.1 < zXB ∧
  (∀ a, zXB ≤ a → w.2.2.1 a = zxs L a ∧ (∀ i, w.2.2.2.2 a i = zxm xs a i) ∧ ∀ i, w.2.2.2.1 a i = zxr a i) ∧
  (∀ a, w.1 ≤ a → a < zXB → (w.2.2.1 a).1 = 99 ∧ ∀ i, w.2.2.2.2 a i = 0 ∧ w.2.2.2.1 a i = none)
theorem zRF_congr {base : Nat} {ext : Nat → Nat} {w w' : zmW} {k ci j : Nat} {v : Value} (h2 : ∀ i, w'.2.2.2.2 k i = w.2.2.2.2 k i) (h3 : ∀ i, w'.2.2.2.1 k i = w.2.2.2.1 k i) (h : zRF base ext w k ci j v) : zRF base ext w' k ci j v := by
  unfold zRF at h ⊢
  rw [h2, h3]
  exact h
theorem zRC_congr {base : Nat} {ext : Nat → Nat} {cA : Nat → ClassId} {w w' : zmW} {k : Nat} {e : va_E} (h1 : w'.2.2.1 k = w.2.2.1 k) (h2 : ∀ i, w'.2.2.2.2 k i = w.2.2.2.2 k i) (h3 : ∀ i, w'.2.2.2.1 k i = w.2.2.2.1 k i) (h : zRC base ext cA w k e) : zRC base ext cA w' k e := by
  rcases e with ⟨c, n, x⟩ | ⟨ci, fs⟩
  · obtain ⟨t, q1, q2, q3, q4⟩ := h
    refine ⟨t, q1, by rw [h1]; exact q2, q3, ?_⟩
    rcases x with f | f | f | f | f
    · exact ⟨q4.1, fun j hj => by rw [h2]; exact q4.2 j hj⟩
    · exact ⟨q4.1, fun j hj => by rw [h2]; exact q4.2 j hj⟩
    · exact q4
    · exact q4
    · exact ⟨q4.1, fun j hj => by rw [h3]; exact q4.2 j hj⟩
  · obtain ⟨q1, q2, q3, q4⟩ := h
    refine ⟨by rw [h1]; exact q1, q2, q3, fun j hj => ?_⟩
    obtain ⟨v, g1, g2⟩ := q4 j hj
    exact ⟨v, g1, zRF_congr h2 h3 g2⟩
/-- a store: one cell changes -/
theorem zRp_store {base : Nat} {ext : Nat → Nat} {D : va_G} {cA : Nat → ClassId} {L : Nat} {xs : Nat → Int32} {w w' : zmW} {H H1 : Heap} {a : Nat} {e : va_E} (h : zRp base ext D cA L xs w H) (ha : a < w.1) (hn : w'.1 = w.1) (hs : w'.2.2.1 = w.2.2.1)
    (hm : ∀ b, b ≠ a → ∀ i, w'.2.2.2.2 b i = w.2.2.2.2 b i) (hr : ∀ b, b ≠ a → ∀ i, w'.2.2.2.1 b i = w.2.2.2.1 b i) (he : va_at D zcl (base + a, e) H1) (hC : zRC base ext cA w' a e) (hz : H1.size = H.size) (oq : ∀ q : Nat, q ≠ base + a → H1[q]? = H[q]?) : zRp base ext D cA L xs w' H1 := by
  obtain ⟨⟨g, hP, hg⟩, h1, h2, h3, h4⟩ := h
  refine ⟨⟨va_up g a e, ?_, ?_⟩, by rw [hz, hn]; exact h1, by rw [hn]; exact h2, fun b hb => ?_, fun b hb hb2 => ?_⟩
  · rw [hn, ← zWL_set ha]
    exact hP.set zWL_D (zWL_get ha) he oq
  · intro k hk
    rw [hn] at hk
    by_cases hka : k = a
    · subst hka
      rw [va_up_self]
      exact hC
    · rw [va_up_ne _ _ hka]
      exact zRC_congr (by rw [hs]) (hm k hka) (hr k hka) (hg k hk)
  · have hne : b ≠ a := by omega
    obtain ⟨q1, q2, q3⟩ := h3 b hb
    exact ⟨by rw [hs]; exact q1, fun i => by rw [hm b hne]; exact q2 i, fun i => by rw [hr b hne]; exact q3 i⟩
  · rw [hn] at hb
    have hne : b ≠ a := by omega
    obtain ⟨q1, q2⟩ := h4 b hb hb2
    exact ⟨by rw [hs]; exact q1, fun i => by rw [hm b hne, hr b hne]; exact q2 i⟩
/-- a new cell -/
theorem zRp_new {base : Nat} {ext : Nat → Nat} {D : va_G} {cA : Nat → ClassId} {L : Nat} {xs : Nat → Int32} {w w' : zmW} {H H1 : Heap} {e : va_E} {t n sl : Nat} (h : zRp base ext D cA L xs w H) (hw : zNew w t n sl = some w') (he : va_at D zcl (base + w.1, e) H1) (hC : zRC base ext cA w' w.1 e) (hz : H1.size = H.size + 1) (oq : ∀ q : Nat, q < H.size → H1[q]? = H[q]?) : zRp base ext D cA L xs w' H1 := by
  obtain ⟨⟨g, hP, hg⟩, h1, h2, h3, h4⟩ := h
  unfold zNew at hw
  split at hw
  · rename_i hlt
    cases hw
    refine ⟨⟨va_up g w.1 e, ?_, ?_⟩, by rw [hz, h1]; rfl, hlt.1, fun b hb => ?_, fun b hb hb2 => ?_⟩
    · show va_P D zcl (zWL base (w.1 + 1) (va_up g w.1 e)) H1
      rw [← zWL_push]
      refine va_P.app (hP.kept fun k q hk => ?_) ?_
      · obtain ⟨hk1, rfl⟩ := zWL_inv hk
        exact oq _ (by show base + k < H.size; omega)
      · intro k q hk
        have hk0 : k < 1 := (List.getElem?_eq_some_iff.mp hk).1
        have : k = 0 := by omega
        subst this
        cases hk
        exact he
    · intro k hk
      by_cases hka : k = w.1
      · subst hka
        rw [va_up_self]
        exact hC
      · rw [va_up_ne _ _ hka]
        have hk2 : k < w.1 := by have : k < w.1 + 1 := hk; omega
        refine zRC_congr (w := w) ?_ (fun i => rfl) (fun i => rfl) (hg k hk2)
        show zupS w.2.2.1 w.1 (t, n) k = _
        unfold zupS
        rw [if_neg hka]
    · obtain ⟨q1, q2, q3⟩ := h3 b hb
      refine ⟨?_, q2, q3⟩
      show zupS w.2.2.1 w.1 (t, n) b = _
      unfold zupS
      rw [if_neg (by omega)]
      exact q1
    · have hb' : w.1 + 1 ≤ b := hb
      obtain ⟨q1, q2⟩ := h4 b (by omega) hb2
      refine ⟨?_, q2⟩
      show (zupS w.2.2.1 w.1 (t, n) b).1 = _
      unfold zupS
      rw [if_neg (by omega)]
      exact q1
  · cases hw
/-- what is known of a cell of a kind -/
theorem zRp_obj {base : Nat} {ext : Nat → Nat} {D : va_G} {cA : Nat → ClassId} {L : Nat} {xs : Nat → Int32} {w : zmW} {H : Heap} {a ci : Nat} (h : zRp base ext D cA L xs w H) (hci : ci < 13) (hk : (w.2.2.1 a).1 = ci) : a < w.1 ∧ a < zXB ∧ ∃ fs, va_at D zcl (base + a, .inr (ci, fs)) H ∧ fs.length = zN ci ∧ ∀ j, j < zN ci → ∃ v, fs[j]? = some v ∧ zRF base ext w a ci j v := by
  obtain ⟨⟨g, hP, hg⟩, h1, h2, h3, h4⟩ := h
  have ha : a < w.1 := by
    rcases Nat.lt_or_ge a w.1 with q | q
    · exact q
    · exfalso
      rcases Nat.lt_or_ge a zXB with q2 | q2
      · have := (h4 a q q2).1
        omega
      · have e := (h3 a q2).1
        rw [e] at hk
        unfold zxs at hk
        repeat' split at hk
        all_goals (simp at hk; omega)
  refine ⟨ha, by omega, ?_⟩
  have hc := hg a ha
  have hp := hP a _ (zWL_get ha)
  rcases hgk : g a with ⟨c, n, x⟩ | ⟨ci', fs⟩
  · rw [hgk] at hc
    obtain ⟨t, q1, q2, -⟩ := hc
    rw [q2] at hk
    simp at hk
    omega
  · rw [hgk] at hc hp
    obtain ⟨q1, q2, q3, q4⟩ := hc
    have : ci' = ci := by rw [← q1]; exact hk
    subst this
    exact ⟨fs, hp, q3, q4⟩
theorem zRp_arr {base : Nat} {ext : Nat → Nat} {D : va_G} {cA : Nat → ClassId} {L : Nat} {xs : Nat → Int32} {w : zmW} {H : Heap} {a t n : Nat} (h : zRp base ext D cA L xs w H) (ha : a < w.1) (hk : w.2.2.1 a = (100 + t, n)) : a < zXB ∧ t < 8 ∧ ∃ x, va_at D zcl (base + a, .inl (cA t, n, x)) H ∧ zRA base ext w a t n x := by
  obtain ⟨⟨g, hP, hg⟩, h1, h2, h3, h4⟩ := h
  refine ⟨by omega, ?_⟩
  have hc := hg a ha
  have hp := hP a _ (zWL_get ha)
  rcases hgk : g a with ⟨c, n', x⟩ | ⟨ci', fs⟩
  · rw [hgk] at hc hp
    obtain ⟨t', q1, q2, q3, q4⟩ := hc
    rw [hk] at q2
    have e1 : t = t' := by
      have := congrArg Prod.fst q2
      simp at this
      exact this
    have e2 : n = n' := congrArg Prod.snd q2
    subst e1
    subst e2
    subst q3
    exact ⟨q1, x, hp, q4⟩
  · rw [hgk] at hc
    obtain ⟨q1, q2, -⟩ := hc
    rw [hk] at q1
    simp at q1
    omega
theorem zph_own {base : Nat} {ext : Nat → Nat} {a : Nat} (h : a < zXB) : zph base ext a = base + a := if_pos h
/-- facts of the start that stay: tables, texts, the script -/
def zXF (base : Nat) (ext : Nat → Nat) (L : Nat) (xs : Nat → Int32) (s : State) (H : Heap) : Prop :=
  (∀ (j : Nat) (C n : String) (l : List Int), zx_tab[j]? = some (C, n, l) → va_Z C n "[I" (.ref (ext j)) (zA base) s H ∧ va_T .int (ext j) l.length (fun i => .int (Int32.ofInt (l.getD i 0))) (zA base) s H) ∧
  va_Z "java/lang/String" "COMPACT_STRINGS" "Z" (.int 1) (zA base) s H ∧
  vk_S 2 [6, 6] zx_b32 (fun i => ext (10 + i)) (fun i => ext (20 + i)) (zA base) s H ∧ vk_R "ChessWire$Board" 22 "PNBRQK" (ext 10) s ∧ vk_R "ChessWire$Board" 30 "pnbrqk" (ext 11) s ∧
  va_X (ext 30) L xs s H ∧ ext 30 < H.size ∧ ¬ zA base (ext 30)
theorem zXF.kept {base : Nat} {ext : Nat → Nat} {L : Nat} {xs : Nat → Int32} {s : State} {H H1 : Heap} (h : zXF base ext L xs s H) (hz : H.size ≤ H1.size) (hq : ∀ a : Nat, a < H.size → ¬ zA base a → H1[a]? = H[a]?) : zXF base ext L xs s H1 := by
  obtain ⟨h1, h2, h3, h4, h5, h6, h7, h8⟩ := h
  exact ⟨fun j C n l hj => ⟨(h1 j C n l hj).1.kept hq, (h1 j C n l hj).2.kept hq⟩, h2.kept hq, h3.kept hq, h4, h5, h6.kept (hq _ h7 h8), Nat.lt_of_lt_of_le h7 hz, h8⟩
theorem zXF.warm {base : Nat} {ext : Nat → Nat} {L : Nat} {xs : Nat → Int32} {s U : State} {H : Heap} (hW : s.WarmedH U.vm) (h : zXF base ext L xs s H) : zXF base ext L xs U H := by
  obtain ⟨h1, h2, h3, h4, h5, h6, h7, h8⟩ := h
  exact ⟨fun j C n l hj => ⟨(h1 j C n l hj).1.moved hW.alike, (h1 j C n l hj).2.moved hW.alike⟩, h2.moved hW.alike, h3.moved hW.alike, h4.warm hW, h5.warm hW, h6.moved hW.alike, h7, h8⟩
theorem zXF.same {base : Nat} {ext : Nat → Nat} {L : Nat} {xs : Nat → Int32} {s U : State} {H : Heap} (hv : U.vm = s.vm) (h : zXF base ext L xs s H) : zXF base ext L xs U H := by
  obtain ⟨h1, h2, h3, h4, h5, h6, h7, h8⟩ := h
  have hA : s.vm.Alike U.vm := by rw [hv]; exact Vm.Alike.refl _
  exact ⟨fun j C n l hj => ⟨(h1 j C n l hj).1.moved hA, (h1 j C n l hj).2.moved hA⟩, h2.moved hA, h3.moved hA, h4.same hv, h5.same hv, h6.moved hA, h7, h8⟩
/-- the arrays' kinds -/
def ztys : List FieldType := [.int, .long, .boolean, .object "ChessWire$Text", .object "ChessWire$Saying", .object "ChessWire$Board", .object "ChessWire$MoveList", .object "ChessWire$Sheet"]
def ztl (cA : Nat → ClassId) : List (ClassId × FieldType) := (List.range 8).map fun t => (cA t, ztys.getD t .int)
theorem ztl_get {cA : Nat → ClassId} {t : Nat} (h : t < 8) : (ztl cA)[t]? = some (cA t, ztys.getD t .int) := by
  unfold ztl
  rw [List.getElem?_map, List.getElem?_range h]
  rfl
def zAOs (s : State) : Prop := va_AO "ChessWire$Text" s ∧ va_AO "ChessWire$Saying" s ∧ va_AO "ChessWire$Board" s ∧ va_AO "ChessWire$MoveList" s ∧ va_AO "ChessWire$Sheet" s
theorem zAOs.moved {u U : State} (hvm : u.vm.Alike U.vm) (h : zAOs u) : zAOs U := ⟨va_AO.moved hvm h.1, va_AO.moved hvm h.2.1, va_AO.moved hvm h.2.2.1, va_AO.moved hvm h.2.2.2.1, va_AO.moved hvm h.2.2.2.2⟩
/-- what holds of a state beside its world -/
def zKs (base : Nat) (ext : Nat → Nat) (D : va_G) (cA : Nat → ClassId) (L : Nat) (xs : Nat → Int32) (U : State) : Prop := va_K D zcl (ztl cA) U ∧ zXF base ext L xs U U.heap ∧ zAOs U ∧ base ≤ U.heap.size ∧ va_Zq "jdk/internal/util/Preconditions" "SIOOBE_FORMATTER" "Ljava/util/function/BiFunction;" (zA base) U U.heap
