/-! from the law's entry: the large machine does what the small one does -/
theorem zgetD_none {α : Type} (t : List α) (i : Nat) (d : α) (h : t.length ≤ i) : t.getD i d = d := by
  rw [List.getD_eq_getElem?_getD, List.getElem?_eq_none h]
  rfl
theorem zpo_all (l : Launch) (y : Nat) : zP_ok l y := by
  rcases Nat.lt_or_ge y 304 with h | h
  · exact zpo_lt l y h
  · refine Or.inr (Or.inl ?_)
    show (zP_tab.getD (y / 20) []).getD (y % 20) (fun _ => zm_no) = _
    by_cases h2 : y / 20 = 15
    · have h3 : 4 ≤ y % 20 := by omega
      rw [h2]
      exact zgetD_none _ _ _ h3
    · have h4 : zP_tab.getD (y / 20) [] = [] := zgetD_none _ _ _ (by show 16 ≤ y / 20; omega)
      rw [h4]
      rfl
theorem zprog_sound (l : Launch) (d : Nat) : zKO l d (zmD zP d) := zmeth_sound (fun _ => rfl) (zpo_all l) d
def zE0 (L : Nat) (xs : Nat → Int32) : zmW := (0, 0, fun a => if a < zXB then (99, 0) else zxs L a, fun a i => if a < zXB then none else zxr a i, fun a i => if a < zXB then 0 else zxm xs a i)
theorem zE0_rp {base : Nat} {ext : Nat → Nat} {D : va_G} {cA : Nat → ClassId} {L : Nat} {xs : Nat → Int32} {H : Heap} (h : H.size = base) : zRp base ext D cA L xs (zE0 L xs) H := by
  refine ⟨⟨fun _ => .inr (0, []), fun k q hk => ?_, fun k hk => ?_⟩, h, (show 0 < zXB by decide), fun a ha => ?_, fun a _ ha => ?_⟩
  · have : (zWL base 0 (fun _ => (.inr (0, []) : va_E)))[k]? = some q := hk
    simp [zWL] at this
  · exact absurd hk (Nat.not_lt_zero k)
  · refine ⟨if_neg (by omega), fun i => if_neg (by omega), fun i => if_neg (by omega)⟩
  · refine ⟨?_, fun i => ⟨if_pos ha, if_pos ha⟩⟩
    show (if a < zXB then ((99, 0) : Nat × Nat) else zxs L a).1 = 99
    rw [if_pos ha]
theorem zinst_ok : ∀ ci, ci < 13 → Cond.instantiable (zC ci) (zN ci) ∈ zG := by
  intro ci h
  rcases (show ci = 0 ∨ ci = 1 ∨ ci = 2 ∨ ci = 3 ∨ ci = 4 ∨ ci = 5 ∨ ci = 6 ∨ ci = 7 ∨ ci = 8 ∨ ci = 9 ∨ ci = 10 ∨ ci = 11 ∨ ci = 12 by omega) with rfl | rfl | rfl | rfl | rfl | rfl | rfl | rfl | rfl | rfl | rfl | rfl | rfl
  · exact zw_25
  · exact zw_34
  · exact zw_51
  · exact zw_70
  · exact zw_86
  · exact zw_102
  · exact zw_122
  · exact zw_132
  · exact zw_157
  · exact zw_208
  · exact zw_243
  · exact zw_285
  · exact zw_1139
/-- an array class, as the tables have it -/
theorem zarr_prim {args : Array Value} {s : State} {ty : FieldType} (hp : ∀ (U : State) (cA0 : ClassId), U.vm.findClass ("[" ++ ty.toString) = some cA0 → va_RA U cA0 ty) (h : (Cond.arrayClass ty).before args s = true) : ∃ c, ArrOfT s c ty ∧ va_RA s c ty := by
  obtain ⟨c, k, comp, h1, h2, h3⟩ := Cond.arrayClass_spec h
  exact ⟨c, fun n z => ⟨fun k h => (by cases h), k, h2, comp, h3⟩, hp s c h1⟩
theorem zarr_obj {args : Array Value} {s : State} {C : String} (h : (Cond.arrayOver (.object C)).before args s = true) : ∃ c, ArrOfT s c (.object C) ∧ va_RA s c (.object C) := by
  obtain ⟨comp, c, k, h1, h2, h3, h4, h5⟩ := Cond.arrayOver_spec h
  exact ⟨c, fun n z => ⟨fun k h => (by cases h), k, h3, comp, h4⟩, k, comp, h3, h4, h1, h5⟩
/-! THE CLAIM OUT OF ONE WALK OF THE LAW'S BODY. Your part is whole_start (and what it stands on); all else here is the same for every law, but numbers. -/
def R_law : String := "ChessWireLaw"
def lw_P (b : Addr) (xs : List Int32) (args : Array Value) (s : State) : Prop := args = #[.ref b] ∧ s.IntsAt b xs ∧ xs.length ≤ 3072 ∧ (Jvm.Cond.and given_1 narrow_1).before args s = true
def lw_Q (_ : Array Value) (s : State) (o : Outcome) (t : State) : Prop := o = .returned (some (.int 1)) ∧ Framed s o t [] 600000 7302250
def lw_Z (below : List Frame) (a : Array Value) (s : State) : State → Prop := fun t => ∃ o, t.status = .running ∧ Ended t below o ∧ lw_Q a s o t
/-- the law's own end, with 1 on the stack, nothing written that was there before, its room as the claim has it -/
theorem lw_ret {p : Program} {l : Launch} {e : Env} {s : State} {m : MethodId} {below : List Frame} {meth : Method} {c : Code} {b : Nat} (hx : p.tables.exec = Jvm.exec) (hb : c.code = code) (hr : meth.sig.returnType = ret) (hlocks : meth.locks = false) {pc : Nat} {H : Heap} {ls : Array Slot} (hdg : decode code pc = .ok (.ireturn, 1)) : W p l e room_1 s m #[Value.ref b] below meth c H [] 600000 7302250 (lw_Z below #[Value.ref b] s) (F0 m pc ls [.int 1]) := by
  intro T hT X
  obtain ⟨fs, hret, hrun, hended, hW, hframe⟩ := X.leave (v := some (.int 1)) (hlocks := hlocks) (fun h => by rw [hr] at h; cases h)
  have hmeth' : T.vm.method? m = some meth := X.method'
  refine ⟨T.setFrames fs, ?_, .returned (some (.int 1)), hrun, hended, rfl, ⟨_, rfl⟩, hW, hframe⟩
  jvm_step X.here [X.here.top, hx, hb, hdg, hmeth', hr, ret, narrow_b1]
  (try refine ⟨rfl, ?_⟩); (try refine ⟨rfl, ?_⟩)
  first | (intro acts; rw [hret _ acts rfl rfl rfl]) | rw [hret _ _ rfl rfl rfl]
  exact Steps.refl _
/-- what holds at the law's entry: the machine, the code, the tables' words (any of lw_tbl by 'hts w (by decide +kernel)'), the script of L ints xs at the cell b, what the Statement gives of the start (any of its parts by flat_of_before) -/
def lw_At (p : Program) (s : State) (m : MethodId) (meth : Method) (c : Code) (b L : Nat) (xs : Nat → Int32) : Prop :=
  p.tables.exec = Jvm.exec ∧ c.code = code ∧ meth.sig.returnType = ret ∧ c.maxLocals = 4 ∧ s.vm.findClass R_law = some m.cls ∧ (∀ w ∈ lw_tbl, w.before #[Value.ref b] s = true) ∧ va_X b L xs s s.heap ∧ b < s.heap.size ∧ meth.locks = false ∧ (Jvm.Cond.and given_1 narrow_1).before #[Value.ref b] s = true
-- GEN: out of the Statement by program
theorem zst_tab0 {s : State} {args : Array Value} (hs : ∀ w ∈ flatC (Jvm.Cond.and given_1 narrow_1), w.before args s = true) (hts : ∀ w ∈ lw_tbl, w.before args s = true) {A : Nat → Prop} (hA : ∀ a : Nat, a < s.heap.size → ¬ A a) : ∃ t : Nat, va_Z "ChessWire$Board" "LEAP_COLUMN" "[I" (.ref t) A s s.heap ∧ va_T .int t 8 (fun i => .int (Int32.ofInt (([1, 2, 2, 1, -1, -2, -2, -1] : List Int).getD i 0))) A s s.heap := by
  have hel : ∀ i : Nat, i < 8 → (Term.elem (Term.static "ChessWire$Board" "LEAP_COLUMN" "[I") (.int (Int32.ofNat i))).eval args s none [] s = some ((fun i : Nat => Value.int (Int32.ofInt (([1, 2, 2, 1, -1, -2, -2, -1] : List Int).getD i 0))) i) := by
    intro i hi
    rcases (show i = 0 ∨ i = 1 ∨ i = 2 ∨ i = 3 ∨ i = 4 ∨ i = 5 ∨ i = 6 ∨ i = 7 by omega) with rfl | rfl | rfl | rfl | rfl | rfl | rfl | rfl
    · exact va_eqt (hs _ (List.mem_of_getElem? (i := 12) rfl))
    · exact va_eqt (hs _ (List.mem_of_getElem? (i := 13) rfl))
    · exact va_eqt (hs _ (List.mem_of_getElem? (i := 14) rfl))
    · exact va_eqt (hs _ (List.mem_of_getElem? (i := 15) rfl))
    · exact va_eqt (hs _ (List.mem_of_getElem? (i := 16) rfl))
    · exact va_eqt (hs _ (List.mem_of_getElem? (i := 17) rfl))
    · exact va_eqt (hs _ (List.mem_of_getElem? (i := 18) rfl))
    · exact va_eqt (hs _ (List.mem_of_getElem? (i := 19) rfl))
  obtain ⟨t, ht, hT⟩ := va_Tof (tm := (Term.static "ChessWire$Board" "LEAP_COLUMN" "[I")) (ty := .int) (N := 8) (f := (fun i : Nat => Value.int (Int32.ofInt (([1, 2, 2, 1, -1, -2, -2, -1] : List Int).getD i 0)))) (A := A) (by decide) (hs _ (List.mem_of_getElem? (i := 10) rfl)) (va_eqt (hs _ (List.mem_of_getElem? (i := 11) rfl))) hel hA
  exact ⟨t, va_Zof (hts _ (List.mem_append_right _ (List.mem_append_right _ (List.mem_append_right _ (List.mem_append_left _ (List.mem_of_getElem? (i := 130) rfl)))))) (hts _ (List.mem_append_right _ (List.mem_append_left _ (List.mem_of_getElem? (i := 4) rfl)))) ht hA, hT⟩
theorem zst_tab1 {s : State} {args : Array Value} (hs : ∀ w ∈ flatC (Jvm.Cond.and given_1 narrow_1), w.before args s = true) (hts : ∀ w ∈ lw_tbl, w.before args s = true) {A : Nat → Prop} (hA : ∀ a : Nat, a < s.heap.size → ¬ A a) : ∃ t : Nat, va_Z "ChessWire$Board" "LEAP_ROW" "[I" (.ref t) A s s.heap ∧ va_T .int t 8 (fun i => .int (Int32.ofInt (([2, 1, -1, -2, -2, -1, 1, 2] : List Int).getD i 0))) A s s.heap := by
  have hel : ∀ i : Nat, i < 8 → (Term.elem (Term.static "ChessWire$Board" "LEAP_ROW" "[I") (.int (Int32.ofNat i))).eval args s none [] s = some ((fun i : Nat => Value.int (Int32.ofInt (([2, 1, -1, -2, -2, -1, 1, 2] : List Int).getD i 0))) i) := by
    intro i hi
    rcases (show i = 0 ∨ i = 1 ∨ i = 2 ∨ i = 3 ∨ i = 4 ∨ i = 5 ∨ i = 6 ∨ i = 7 by omega) with rfl | rfl | rfl | rfl | rfl | rfl | rfl | rfl
    · exact va_eqt (hs _ (List.mem_of_getElem? (i := 23) rfl))
    · exact va_eqt (hs _ (List.mem_of_getElem? (i := 24) rfl))
    · exact va_eqt (hs _ (List.mem_of_getElem? (i := 25) rfl))
    · exact va_eqt (hs _ (List.mem_of_getElem? (i := 26) rfl))
    · exact va_eqt (hs _ (List.mem_of_getElem? (i := 27) rfl))
    · exact va_eqt (hs _ (List.mem_of_getElem? (i := 28) rfl))
    · exact va_eqt (hs _ (List.mem_of_getElem? (i := 29) rfl))
    · exact va_eqt (hs _ (List.mem_of_getElem? (i := 30) rfl))
  obtain ⟨t, ht, hT⟩ := va_Tof (tm := (Term.static "ChessWire$Board" "LEAP_ROW" "[I")) (ty := .int) (N := 8) (f := (fun i : Nat => Value.int (Int32.ofInt (([2, 1, -1, -2, -2, -1, 1, 2] : List Int).getD i 0)))) (A := A) (by decide) (hs _ (List.mem_of_getElem? (i := 21) rfl)) (va_eqt (hs _ (List.mem_of_getElem? (i := 22) rfl))) hel hA
  exact ⟨t, va_Zof (hts _ (List.mem_append_right _ (List.mem_append_right _ (List.mem_append_right _ (List.mem_append_left _ (List.mem_of_getElem? (i := 132) rfl)))))) (hts _ (List.mem_append_right _ (List.mem_append_left _ (List.mem_of_getElem? (i := 4) rfl)))) ht hA, hT⟩
theorem zst_tab2 {s : State} {args : Array Value} (hs : ∀ w ∈ flatC (Jvm.Cond.and given_1 narrow_1), w.before args s = true) (hts : ∀ w ∈ lw_tbl, w.before args s = true) {A : Nat → Prop} (hA : ∀ a : Nat, a < s.heap.size → ¬ A a) : ∃ t : Nat, va_Z "ChessWire$Board" "STEP_COLUMN" "[I" (.ref t) A s s.heap ∧ va_T .int t 8 (fun i => .int (Int32.ofInt (([1, 1, 0, -1, -1, -1, 0, 1] : List Int).getD i 0))) A s s.heap := by
  have hel : ∀ i : Nat, i < 8 → (Term.elem (Term.static "ChessWire$Board" "STEP_COLUMN" "[I") (.int (Int32.ofNat i))).eval args s none [] s = some ((fun i : Nat => Value.int (Int32.ofInt (([1, 1, 0, -1, -1, -1, 0, 1] : List Int).getD i 0))) i) := by
    intro i hi
    rcases (show i = 0 ∨ i = 1 ∨ i = 2 ∨ i = 3 ∨ i = 4 ∨ i = 5 ∨ i = 6 ∨ i = 7 by omega) with rfl | rfl | rfl | rfl | rfl | rfl | rfl | rfl
    · exact va_eqt (hs _ (List.mem_of_getElem? (i := 34) rfl))
    · exact va_eqt (hs _ (List.mem_of_getElem? (i := 35) rfl))
    · exact va_eqt (hs _ (List.mem_of_getElem? (i := 36) rfl))
    · exact va_eqt (hs _ (List.mem_of_getElem? (i := 37) rfl))
    · exact va_eqt (hs _ (List.mem_of_getElem? (i := 38) rfl))
    · exact va_eqt (hs _ (List.mem_of_getElem? (i := 39) rfl))
    · exact va_eqt (hs _ (List.mem_of_getElem? (i := 40) rfl))
    · exact va_eqt (hs _ (List.mem_of_getElem? (i := 41) rfl))
  obtain ⟨t, ht, hT⟩ := va_Tof (tm := (Term.static "ChessWire$Board" "STEP_COLUMN" "[I")) (ty := .int) (N := 8) (f := (fun i : Nat => Value.int (Int32.ofInt (([1, 1, 0, -1, -1, -1, 0, 1] : List Int).getD i 0)))) (A := A) (by decide) (hs _ (List.mem_of_getElem? (i := 32) rfl)) (va_eqt (hs _ (List.mem_of_getElem? (i := 33) rfl))) hel hA
  exact ⟨t, va_Zof (hts _ (List.mem_append_right _ (List.mem_append_right _ (List.mem_append_right _ (List.mem_append_left _ (List.mem_of_getElem? (i := 138) rfl)))))) (hts _ (List.mem_append_right _ (List.mem_append_left _ (List.mem_of_getElem? (i := 4) rfl)))) ht hA, hT⟩
theorem zst_tab3 {s : State} {args : Array Value} (hs : ∀ w ∈ flatC (Jvm.Cond.and given_1 narrow_1), w.before args s = true) (hts : ∀ w ∈ lw_tbl, w.before args s = true) {A : Nat → Prop} (hA : ∀ a : Nat, a < s.heap.size → ¬ A a) : ∃ t : Nat, va_Z "ChessWire$Board" "STEP_ROW" "[I" (.ref t) A s s.heap ∧ va_T .int t 8 (fun i => .int (Int32.ofInt (([0, 1, 1, 1, 0, -1, -1, -1] : List Int).getD i 0))) A s s.heap := by
  have hel : ∀ i : Nat, i < 8 → (Term.elem (Term.static "ChessWire$Board" "STEP_ROW" "[I") (.int (Int32.ofNat i))).eval args s none [] s = some ((fun i : Nat => Value.int (Int32.ofInt (([0, 1, 1, 1, 0, -1, -1, -1] : List Int).getD i 0))) i) := by
    intro i hi
    rcases (show i = 0 ∨ i = 1 ∨ i = 2 ∨ i = 3 ∨ i = 4 ∨ i = 5 ∨ i = 6 ∨ i = 7 by omega) with rfl | rfl | rfl | rfl | rfl | rfl | rfl | rfl
    · exact va_eqt (hs _ (List.mem_of_getElem? (i := 45) rfl))
    · exact va_eqt (hs _ (List.mem_of_getElem? (i := 46) rfl))
    · exact va_eqt (hs _ (List.mem_of_getElem? (i := 47) rfl))
    · exact va_eqt (hs _ (List.mem_of_getElem? (i := 48) rfl))
    · exact va_eqt (hs _ (List.mem_of_getElem? (i := 49) rfl))
    · exact va_eqt (hs _ (List.mem_of_getElem? (i := 50) rfl))
    · exact va_eqt (hs _ (List.mem_of_getElem? (i := 51) rfl))
    · exact va_eqt (hs _ (List.mem_of_getElem? (i := 52) rfl))
  obtain ⟨t, ht, hT⟩ := va_Tof (tm := (Term.static "ChessWire$Board" "STEP_ROW" "[I")) (ty := .int) (N := 8) (f := (fun i : Nat => Value.int (Int32.ofInt (([0, 1, 1, 1, 0, -1, -1, -1] : List Int).getD i 0)))) (A := A) (by decide) (hs _ (List.mem_of_getElem? (i := 43) rfl)) (va_eqt (hs _ (List.mem_of_getElem? (i := 44) rfl))) hel hA
  exact ⟨t, va_Zof (hts _ (List.mem_append_right _ (List.mem_append_right _ (List.mem_append_right _ (List.mem_append_left _ (List.mem_of_getElem? (i := 140) rfl)))))) (hts _ (List.mem_append_right _ (List.mem_append_left _ (List.mem_of_getElem? (i := 4) rfl)))) ht hA, hT⟩
theorem zst_tab4 {s : State} {args : Array Value} (hs : ∀ w ∈ flatC (Jvm.Cond.and given_1 narrow_1), w.before args s = true) (hts : ∀ w ∈ lw_tbl, w.before args s = true) {A : Nat → Prop} (hA : ∀ a : Nat, a < s.heap.size → ¬ A a) : ∃ t : Nat, va_Z "ChessWire$Namer" "PARTS" "[I" (.ref t) A s s.heap ∧ va_T .int t 11 (fun i => .int (Int32.ofInt (([1, 2, 17, 18, 3, 7, 19, 11, 23, 27, 15] : List Int).getD i 0))) A s s.heap := by
  have hel : ∀ i : Nat, i < 11 → (Term.elem (Term.static "ChessWire$Namer" "PARTS" "[I") (.int (Int32.ofNat i))).eval args s none [] s = some ((fun i : Nat => Value.int (Int32.ofInt (([1, 2, 17, 18, 3, 7, 19, 11, 23, 27, 15] : List Int).getD i 0))) i) := by
    intro i hi
    rcases (show i = 0 ∨ i = 1 ∨ i = 2 ∨ i = 3 ∨ i = 4 ∨ i = 5 ∨ i = 6 ∨ i = 7 ∨ i = 8 ∨ i = 9 ∨ i = 10 by omega) with rfl | rfl | rfl | rfl | rfl | rfl | rfl | rfl | rfl | rfl | rfl
    · exact va_eqt (hs _ (List.mem_of_getElem? (i := 56) rfl))
    · exact va_eqt (hs _ (List.mem_of_getElem? (i := 57) rfl))
    · exact va_eqt (hs _ (List.mem_of_getElem? (i := 58) rfl))
    · exact va_eqt (hs _ (List.mem_of_getElem? (i := 59) rfl))
    · exact va_eqt (hs _ (List.mem_of_getElem? (i := 60) rfl))
    · exact va_eqt (hs _ (List.mem_of_getElem? (i := 61) rfl))
    · exact va_eqt (hs _ (List.mem_of_getElem? (i := 62) rfl))
    · exact va_eqt (hs _ (List.mem_of_getElem? (i := 63) rfl))
    · exact va_eqt (hs _ (List.mem_of_getElem? (i := 64) rfl))
    · exact va_eqt (hs _ (List.mem_of_getElem? (i := 65) rfl))
    · exact va_eqt (hs _ (List.mem_of_getElem? (i := 66) rfl))
  obtain ⟨t, ht, hT⟩ := va_Tof (tm := (Term.static "ChessWire$Namer" "PARTS" "[I")) (ty := .int) (N := 11) (f := (fun i : Nat => Value.int (Int32.ofInt (([1, 2, 17, 18, 3, 7, 19, 11, 23, 27, 15] : List Int).getD i 0)))) (A := A) (by decide) (hs _ (List.mem_of_getElem? (i := 54) rfl)) (va_eqt (hs _ (List.mem_of_getElem? (i := 55) rfl))) hel hA
  exact ⟨t, va_Zof (hts _ (List.mem_append_right _ (List.mem_append_right _ (List.mem_append_right _ (List.mem_append_left _ (List.mem_of_getElem? (i := 196) rfl)))))) (hts _ (List.mem_append_right _ (List.mem_append_left _ (List.mem_of_getElem? (i := 8) rfl)))) ht hA, hT⟩
theorem zst_compact {s : State} {args : Array Value} (hs : ∀ w ∈ flatC (Jvm.Cond.and given_1 narrow_1), w.before args s = true) (hts : ∀ w ∈ lw_tbl, w.before args s = true) {A : Nat → Prop} (hA : ∀ a : Nat, a < s.heap.size → ¬ A a) : va_Z "java/lang/String" "COMPACT_STRINGS" "Z" (.int 1) A s s.heap := va_Zof (hts _ (List.mem_append_right _ (List.mem_append_right _ (List.mem_append_left _ (List.mem_of_getElem? (i := 183) rfl))))) (hts _ (List.mem_append_right _ (List.mem_append_left _ (List.mem_of_getElem? (i := 16) rfl)))) (va_eqi (hs _ (List.mem_of_getElem? (i := 4) rfl))) hA
theorem zst_fmt {s : State} {args : Array Value} (hs : ∀ w ∈ flatC (Jvm.Cond.and given_1 narrow_1), w.before args s = true) (hts : ∀ w ∈ lw_tbl, w.before args s = true) {A : Nat → Prop} (hA : ∀ a : Nat, a < s.heap.size → ¬ A a) : va_Zq "jdk/internal/util/Preconditions" "SIOOBE_FORMATTER" "Ljava/util/function/BiFunction;" A s s.heap := va_Zqof (hts _ (List.mem_append_right _ (List.mem_append_right _ (List.mem_append_left _ (List.mem_of_getElem? (i := 224) rfl))))) (hts _ (List.mem_append_right _ (List.mem_append_left _ (List.mem_of_getElem? (i := 19) rfl)))) (hs _ (List.mem_of_getElem? (i := 5) rfl)) hA
theorem zst_AOs {s : State} {args : Array Value} (hs : ∀ w ∈ flatC (Jvm.Cond.and given_1 narrow_1), w.before args s = true) (hts : ∀ w ∈ lw_tbl, w.before args s = true) : zAOs s := ⟨va_AO.of (A := args) (hts _ (List.mem_append_right _ (List.mem_append_left _ (List.mem_of_getElem? (i := 33) rfl)))), va_AO.of (A := args) (hts _ (List.mem_append_right _ (List.mem_append_left _ (List.mem_of_getElem? (i := 214) rfl)))), va_AO.of (A := args) (hts _ (List.mem_append_right _ (List.mem_append_right _ (List.mem_append_left _ (List.mem_of_getElem? (i := 9) rfl))))), va_AO.of (A := args) (hts _ (List.mem_append_right _ (List.mem_append_right _ (List.mem_append_left _ (List.mem_of_getElem? (i := 12) rfl))))), va_AO.of (A := args) (hts _ (List.mem_append_right _ (List.mem_append_right _ (List.mem_append_left _ (List.mem_of_getElem? (i := 44) rfl)))))⟩
theorem zst_arr {s : State} {args : Array Value} (hs : ∀ w ∈ flatC (Jvm.Cond.and given_1 narrow_1), w.before args s = true) (hts : ∀ w ∈ lw_tbl, w.before args s = true) : ∃ cA : Nat → ClassId, ∀ t, t < 8 → ArrOfT s (cA t) (ztys.getD t .int) ∧ va_RA s (cA t) (ztys.getD t .int) := by
  obtain ⟨c0, h0⟩ := zarr_prim (ty := .int) (fun U cA0 h => h) (hts _ (List.mem_append_right _ (List.mem_append_left _ (List.mem_of_getElem? (i := 49) rfl))))
  obtain ⟨c1, h1⟩ := zarr_prim (ty := .long) (fun U cA0 h => h) (hts _ (List.mem_append_right _ (List.mem_append_right _ (List.mem_append_left _ (List.mem_of_getElem? (i := 42) rfl)))))
  obtain ⟨c2, h2⟩ := zarr_prim (ty := .boolean) (fun U cA0 h => h) (hts _ (List.mem_append_right _ (List.mem_append_right _ (List.mem_append_right _ (List.mem_append_right _ (List.mem_append_right _ (List.mem_append_right _ (List.mem_append_left _ (List.mem_of_getElem? (i := 94) rfl)))))))))
  obtain ⟨c3, h3⟩ := zarr_obj (C := "ChessWire$Text") (hts _ (List.mem_append_right _ (List.mem_append_left _ (List.mem_of_getElem? (i := 33) rfl))))
  obtain ⟨c4, h4⟩ := zarr_obj (C := "ChessWire$Saying") (hts _ (List.mem_append_right _ (List.mem_append_left _ (List.mem_of_getElem? (i := 214) rfl))))
  obtain ⟨c5, h5⟩ := zarr_obj (C := "ChessWire$Board") (hts _ (List.mem_append_right _ (List.mem_append_right _ (List.mem_append_left _ (List.mem_of_getElem? (i := 9) rfl)))))
  obtain ⟨c6, h6⟩ := zarr_obj (C := "ChessWire$MoveList") (hts _ (List.mem_append_right _ (List.mem_append_right _ (List.mem_append_left _ (List.mem_of_getElem? (i := 12) rfl)))))
  obtain ⟨c7, h7⟩ := zarr_obj (C := "ChessWire$Sheet") (hts _ (List.mem_append_right _ (List.mem_append_right _ (List.mem_append_left _ (List.mem_of_getElem? (i := 44) rfl)))))
  refine ⟨fun t => [c0, c1, c2, c3, c4, c5, c6, c7].getD t 0, fun t ht => ?_⟩
  rcases (show t = 0 ∨ t = 1 ∨ t = 2 ∨ t = 3 ∨ t = 4 ∨ t = 5 ∨ t = 6 ∨ t = 7 by omega) with rfl | rfl | rfl | rfl | rfl | rfl | rfl | rfl
  · exact h0
  · exact h1
  · exact h2
  · exact h3
  · exact h4
  · exact h5
  · exact h6
  · exact h7
theorem zst_str {s : State} {args : Array Value} (hs : ∀ w ∈ flatC (Jvm.Cond.and given_1 narrow_1), w.before args s = true) (hts : ∀ w ∈ lw_tbl, w.before args s = true) {A : Nat → Prop} (hA : ∀ a : Nat, a < s.heap.size → ¬ A a) : ∃ adK adV : Nat → Nat, vk_S 2 [6, 6] zx_b32 adK adV A s s.heap ∧ vk_R "ChessWire$Board" 22 "PNBRQK" (adK 0) s ∧ vk_R "ChessWire$Board" 30 "pnbrqk" (adK 1) s := by
  refine Exists.elim (vk_Sof (s := s) (args := args) (N := 2) (tm := (fun i : Nat => if i = 0 then Term.string "ChessWire$Board" 22 else Term.string "ChessWire$Board" 30)) (len := [6, 6]) (byt := zx_b32) (A := A) ?_ ?_ ?_ ?_ ?_ ?_ ?_ hA) (fun adK h => Exists.elim h (fun adV h => ?_))
  · intro i hi
    rcases (show i = 0 ∨ i = 1 by omega) with rfl | rfl <;> decide
  · intro i hi
    rcases (show i = 0 ∨ i = 1 by omega) with rfl | rfl
    · exact hs _ (List.mem_of_getElem? (i := 132) rfl)
    · exact hs _ (List.mem_of_getElem? (i := 142) rfl)
  · intro i hi
    rcases (show i = 0 ∨ i = 1 by omega) with rfl | rfl
    · exact hs _ (List.mem_of_getElem? (i := 133) rfl)
    · exact hs _ (List.mem_of_getElem? (i := 143) rfl)
  · intro i hi
    rcases (show i = 0 ∨ i = 1 by omega) with rfl | rfl
    · exact hs _ (List.mem_of_getElem? (i := 134) rfl)
    · exact hs _ (List.mem_of_getElem? (i := 144) rfl)
  · intro i hi
    rcases (show i = 0 ∨ i = 1 by omega) with rfl | rfl
    · exact hs _ (List.mem_of_getElem? (i := 135) rfl)
    · exact hs _ (List.mem_of_getElem? (i := 145) rfl)
  · intro i hi j hj
    rcases (show i = 0 ∨ i = 1 by omega) with rfl | rfl
    · have hj : j < 6 := hj
      rcases (show j = 0 ∨ j = 1 ∨ j = 2 ∨ j = 3 ∨ j = 4 ∨ j = 5 by omega) with rfl | rfl | rfl | rfl | rfl | rfl
      · exact hs _ (List.mem_of_getElem? (i := 136) rfl)
      · exact hs _ (List.mem_of_getElem? (i := 137) rfl)
      · exact hs _ (List.mem_of_getElem? (i := 138) rfl)
      · exact hs _ (List.mem_of_getElem? (i := 139) rfl)
      · exact hs _ (List.mem_of_getElem? (i := 140) rfl)
      · exact hs _ (List.mem_of_getElem? (i := 141) rfl)
    · have hj : j < 6 := hj
      rcases (show j = 0 ∨ j = 1 ∨ j = 2 ∨ j = 3 ∨ j = 4 ∨ j = 5 by omega) with rfl | rfl | rfl | rfl | rfl | rfl
      · exact hs _ (List.mem_of_getElem? (i := 146) rfl)
      · exact hs _ (List.mem_of_getElem? (i := 147) rfl)
      · exact hs _ (List.mem_of_getElem? (i := 148) rfl)
      · exact hs _ (List.mem_of_getElem? (i := 149) rfl)
      · exact hs _ (List.mem_of_getElem? (i := 150) rfl)
      · exact hs _ (List.mem_of_getElem? (i := 151) rfl)
  · intro i j hi hj hij
    rcases (show (i = 0 ∧ j = 1) ∨ (i = 1 ∧ j = 0) by omega) with ⟨rfl, rfl⟩ | ⟨rfl, rfl⟩
    · exact Or.inl (hs _ (List.mem_of_getElem? (i := 152) rfl))
    · exact Or.inr (hs _ (List.mem_of_getElem? (i := 152) rfl))
  · obtain ⟨hS, hev⟩ := h
    exact ⟨adK, adV, hS, vk_R.of (A := args) (hts _ (List.mem_append_right _ (List.mem_append_right _ (List.mem_append_left _ (List.mem_of_getElem? (i := 169) rfl))))) (hev 0 (by decide)), vk_R.of (A := args) (hts _ (List.mem_append_right _ (List.mem_append_right _ (List.mem_append_right _ (List.mem_append_left _ (List.mem_of_getElem? (i := 14) rfl)))))) (hev 1 (by decide))⟩
theorem zst_cls {s : State} {args : Array Value} (hts : ∀ w ∈ zG, w.before args s = true) : ∃ D : va_G, ∀ (c : Nat) (q : vw_C), zcl[c]? = some q → u_Kn s q.1 q.2.1 q.2.2 (D.1 c) (D.2 c) := by
  have h : ∀ ci, ∃ x : ClassId × (Nat → Nat), ci < 13 → u_Kn s (zC ci) (zT ci) (zN ci) x.1 x.2 := by
    intro ci
    by_cases hci : ci < 13
    · obtain ⟨cC, iS, h⟩ := u_known (C := zC ci) (T := zT ci) (N := zN ci) (n := zN ci) hts (zlay_in ci hci) (hts _ (zinst_ok ci hci))
      exact ⟨(cC, iS), fun _ => h⟩
    · exact ⟨(0, fun _ => 0), fun q => absurd q hci⟩
  obtain ⟨x, hx⟩ := Classical.skolem.mp h
  refine ⟨(fun c => (x c).1, fun c => (x c).2), fun c q hq => ?_⟩
  have hc : c < 13 := by
    have := (List.getElem?_eq_some_iff.mp hq).1
    simpa [zcl] using this
  rw [zcl_get hc] at hq
  obtain rfl := Option.some.inj hq
  exact hx c hc
theorem zlaw_go {p : Program} {e : Env} {s : State} {m : MethodId} {below : List Frame} {meth : Method} {c : Code} (l : Launch) {b L : Nat} {xs : Nat → Int32} (hL : L ≤ 3072) (C0 : lw_At p s m meth c b L xs) {d : Nat} (hd : d ≤ 1000) {w' : zmW} (hrun : zmE (zmD zP d) zc_law (0, [some (zr (zXB + 30)), none, none, none], [], zE0 L xs) = some (some (zi 1), w')) (hcl : w'.1 ≤ 600000) (hsl : w'.2.1 ≤ 7302250) : W p l e room_1 s m #[Value.ref b] below meth c s.heap [] 0 0 (lw_Z below #[Value.ref b] s) (entryFrame m ([Value.ref b] : List Value).toArray 4) := by
  obtain ⟨hx, hb, hr, hml, hown, hts, hX, hbl, hlocks, hgv⟩ := C0
  have hs := flat_of_before _ hgv
  have hA : ∀ a : Nat, a < s.heap.size → ¬ zA s.heap.size a := fun a h q => by
    have q : s.heap.size ≤ a := q
    omega
  have htg : ∀ w ∈ zG, w.before #[Value.ref b] s = true := fun w hw => hts w (zG_in hw)
  obtain ⟨t0, z0, T0⟩ := zst_tab0 hs hts hA
  obtain ⟨t1, z1, T1⟩ := zst_tab1 hs hts hA
  obtain ⟨t2, z2, T2⟩ := zst_tab2 hs hts hA
  obtain ⟨t3, z3, T3⟩ := zst_tab3 hs hts hA
  obtain ⟨t4, z4, T4⟩ := zst_tab4 hs hts hA
  obtain ⟨adK, adV, hS, hR0, hR1⟩ := zst_str hs hts hA
  obtain ⟨cA, hcA⟩ := zst_arr hs hts
  obtain ⟨D, hD⟩ := zst_cls htg
  obtain ⟨ext, hext⟩ : ∃ ext : Nat → Nat, ext 0 = t0 ∧ ext 1 = t1 ∧ ext 2 = t2 ∧ ext 3 = t3 ∧ ext 4 = t4 ∧ (∀ i, i < 2 → ext (10 + i) = adK i ∧ ext (20 + i) = adV i) ∧ ext 30 = b := by
    refine ⟨fun k => if k = 0 then t0 else if k = 1 then t1 else if k = 2 then t2 else if k = 3 then t3 else if k = 4 then t4 else if k < 20 then adK (k - 10) else if k < 30 then adV (k - 20) else b, rfl, rfl, rfl, rfl, rfl, fun i hi => ?_, rfl⟩
    rcases (show i = 0 ∨ i = 1 by omega) with rfl | rfl <;> exact ⟨rfl, rfl⟩
  obtain ⟨e0, e1, e2, e3, e4, e5, e6⟩ := hext
  have hXF : zXF s.heap.size ext L xs s s.heap := by
    refine ⟨fun j C n l hj => ?_, zst_compact hs hts hA, ?_, ?_, ?_, ?_, ?_, ?_⟩
    · have hj5 : j < 5 := (List.getElem?_eq_some_iff.mp hj).1
      rcases (show j = 0 ∨ j = 1 ∨ j = 2 ∨ j = 3 ∨ j = 4 by omega) with rfl | rfl | rfl | rfl | rfl
      · cases hj
        rw [e0]
        exact ⟨z0, T0⟩
      · cases hj
        rw [e1]
        exact ⟨z1, T1⟩
      · cases hj
        rw [e2]
        exact ⟨z2, T2⟩
      · cases hj
        rw [e3]
        exact ⟨z3, T3⟩
      · cases hj
        rw [e4]
        exact ⟨z4, T4⟩
    · refine ⟨fun i hi => ?_, fun i j hi hj h => hS.2 i j hi hj (by rw [← (e5 i hi).1, ← (e5 j hj).1]; exact h)⟩
      have := hS.1 i hi
      rw [← (e5 i hi).1, ← (e5 i hi).2] at this
      exact this
    · rw [(e5 0 (by decide)).1]
      exact hR0
    · have := (e5 1 (by decide)).1
      rw [show (11 : Nat) = 10 + 1 from rfl, this]
      exact hR1
    · rw [e6]
      exact hX
    · rw [e6]
      exact hbl
    · rw [e6]
      exact hA b hbl
  have hKs : zKs s.heap.size ext D cA L xs s := by
    refine ⟨⟨hD, fun k q hk => ?_⟩, hXF, zst_AOs hs hts, Nat.le_refl _, zst_fmt hs hts hA⟩
    have hk8 : k < 8 := by
      have := (List.getElem?_eq_some_iff.mp hk).1
      simpa [ztl] using this
    rw [ztl_get hk8] at hk
    obtain rfl := Option.some.inj hk
    exact hcA k hk8
  obtain ⟨n, hn⟩ := zmE_run hrun
  obtain ⟨-, hw⟩ := zwalk (zmf_law l) (zprog_sound l d) n _ _ hn
  have hAt := hw p e room_1 s m #[Value.ref b] below meth c (lw_Z below #[Value.ref b] s) s.heap.size ext D cA L xs 0 0
    ⟨hx, hb, hml, hown, htg, hKs, by show d + 1 ≤ 2048; omega, by show 64 * d + 64 ≤ 84000; omega⟩ (fun h => by cases h) (Nat.le_refl _) (Nat.le_refl _) hcl hsl ?_
  · rw [lg_entry_eq]
    refine hAt s.heap [] _ [] (zE0_rp rfl) va_S.rf ?_ trivial
    have hz : zph s.heap.size ext (zXB + 30) = b := by rw [zph_ext, e6]
    exact zRL_init (args := [zr (zXB + 30)]) (vs := [.ref b]) (n := 4) ⟨by show Value.ref b = Value.ref _; rw [hz], trivial⟩ (by decide)
  · intro c1 hc1 H locs ls st hR hS1 hL1 hst1
    obtain ⟨q1, q2⟩ := (zmf_law l c1.1).2 _ c1 _ rfl hc1
    dsimp only at q1 q2
    subst q1
    rcases q2 with ⟨z, f1, f2, f3, -⟩ | ⟨z, f1, f2, -⟩ | ⟨f1, f2, -⟩
    · cases f2
      rw [f1] at hst1
      obtain ⟨x, k1, rfl, hx1, hst2⟩ := zRS_int hst1
      obtain rfl := zRS_nil hst2
      have hx1' : x = 1 := zi_eq.mpr (by rw [hx1]; rfl)
      subst hx1'
      refine va_forget (fun q hq => hS1.2.2 q hq) ?_
      refine W.widen (k := 600000) (n := 7302250) (by omega) (by omega) ?_
      exact lw_ret hx hb hr hlocks f3
    · cases f2
    · cases f2
