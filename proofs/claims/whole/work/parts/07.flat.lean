/-! SOUNDNESS, an instruction at a time: what the small machine does, the large one does -/
def zrm (d mc ms : Nat) : Room := { frames := d, cells := mc, slots := ms, locals := 64 * d }
def zRO (base : Nat) (ext : Nat → Nat) : Option zmV → Option Value → Prop
  | none, none => True
  | some v, some u => zRV base ext v u
  | _, _ => False
def zQm (base : Nat) (ext : Nat → Nat) (D : va_G) (cA : Nat → ClassId) (L : Nat) (xs : Nat → Int32) (r : Option zmV) (w' : zmW) : Array Value → State → Outcome → State → Prop := fun _ st oc t => (∃ v, zRO base ext r v ∧ oc = .returned v) ∧ zRp base ext D cA L xs w' t.heap ∧ va_F (zA base) st t
/-- the contract of a method at one call of the small machine -/
def zMt (l : Launch) (d : Nat) (y : Nat) (A : List zmV) (w : zmW) (r : Option zmV) (w' : zmW) : Prop :=
  ∀ (base : Nat) (ext : Nat → Nat) (D : va_G) (cA : Nat → ClassId) (L : Nat) (xs : Nat → Int32) (vs : List Value), zRS base ext A vs → Met l (zMI y).1 (zcw y :: zG) (zrm d (w'.1 - w.1) (w'.2.1 - w.2.1)) (va_Pc vs (fun U => zRp base ext D cA L xs w U.heap ∧ zKs base ext D cA L xs U)) (zQm base ext D cA L xs r w') (w'.1 - w.1) (w'.2.1 - w.2.1) (zA base)
def zKO (l : Launch) (d : Nat) (K : zmK) : Prop := ∀ (y : Nat) (A : List zmV) (w : zmW) (r : Option zmV) (w' : zmW), K y A w = some (r, w') → (w.1 ≤ w'.1 ∧ w.2.1 ≤ w'.2.1) ∧ zMt l d y A w r w'
def zCx (p : Program) (R : Room) (s : State) (m : MethodId) (args : Array Value) (co : Code) (own : String) (cc : ByteArray) (nL : Nat) (base : Nat) (ext : Nat → Nat) (D : va_G) (cA : Nat → ClassId) (L : Nat) (xs : Nat → Int32) (d : Nat) : Prop :=
  p.tables.exec = Jvm.exec ∧ co.code = cc ∧ co.maxLocals = nL ∧ s.vm.findClass own = some m.cls ∧ (∀ w ∈ zG, w.before args s = true) ∧ zKs base ext D cA L xs s ∧ d + 1 ≤ R.frames ∧ 64 * d + 64 ≤ R.locals
def zAt (p : Program) (l : Launch) (e : Env) (R : Room) (s : State) (m : MethodId) (args : Array Value) (below : List Frame) (meth : Method) (co : Code) (nL : Nat) (Q : State → Prop) (base : Nat) (ext : Nat → Nat) (D : va_G) (cA : Nat → ClassId) (L : Nat) (xs : Nat → Int32) (n0 s0 : Nat) (c : zmC) : Prop :=
  ∀ (H : Heap) (locs : List Loc) (ls : Array Slot) (st : List Value), zRp base ext D cA L xs c.2.2.2 H → va_S (zA base) s.heap H locs → zRL base ext c.2.1 ls nL → zRS base ext c.2.2.1 st → W p l e R s m args below meth co H locs (c.2.2.2.1 - n0) (c.2.2.2.2.1 - s0) Q (F0 m c.1 ls st)
def zSnd (l : Launch) (own : String) (cc : ByteArray) (nL : Nat) (ini : Bool) (pc : Nat) (f : zmI) : Prop :=
  ∀ (d : Nat) (K : zmK), zKO l d K → ∀ c c' : zmC, c.1 = pc → f K c = some (.inl c') → (c.2.2.2.1 ≤ c'.2.2.2.1 ∧ c.2.2.2.2.1 ≤ c'.2.2.2.2.1) ∧
    ∀ (p : Program) (e : Env) (R : Room) (s : State) (m : MethodId) (args : Array Value) (below : List Frame) (meth : Method) (co : Code) (Q : State → Prop) (base : Nat) (ext : Nat → Nat) (D : va_G) (cA : Nat → ClassId) (L : Nat) (xs : Nat → Int32) (n0 s0 : Nat), zCx p R s m args co own cc nL base ext D cA L xs d → (ini = true → meth.name = "<init>") → n0 ≤ c.2.2.2.1 → s0 ≤ c.2.2.2.2.1 → c'.2.2.2.1 - n0 ≤ R.cells → c'.2.2.2.2.1 - s0 ≤ R.slots →
      zAt p l e R s m args below meth co nL Q base ext D cA L xs n0 s0 c' → zAt p l e R s m args below meth co nL Q base ext D cA L xs n0 s0 c
/-- an instruction that leaves the world as it is -/
def zFl (l : Launch) (own : String) (cc : ByteArray) (nL : Nat) (pc : Nat) (f : zmI) : Prop :=
  ∀ (K : zmK) (c c' : zmC), c.1 = pc → f K c = some (.inl c') → c'.2.2.2 = c.2.2.2 ∧
    ∀ (p : Program) (e : Env) (R : Room) (s : State) (m : MethodId) (args : Array Value) (below : List Frame) (meth : Method) (co : Code) (Q : State → Prop) (base : Nat) (ext : Nat → Nat) (D : va_G) (cA : Nat → ClassId) (L : Nat) (xs : Nat → Int32) (d cells slots : Nat) (H : Heap) (locs : List Loc), zCx p R s m args co own cc nL base ext D cA L xs d → zRp base ext D cA L xs c.2.2.2 H → va_S (zA base) s.heap H locs →
      ∀ (ls : Array Slot) (st : List Value), zRL base ext c.2.1 ls nL → zRS base ext c.2.2.1 st → (∀ (ls' : Array Slot) (st' : List Value), zRL base ext c'.2.1 ls' nL → zRS base ext c'.2.2.1 st' → W p l e R s m args below meth co H locs cells slots Q (F0 m c'.1 ls' st')) → W p l e R s m args below meth co H locs cells slots Q (F0 m pc ls st)
theorem zSnd_fl {l : Launch} {own : String} {cc : ByteArray} {nL pc : Nat} {ini : Bool} {f : zmI} (h : zFl l own cc nL pc f) : zSnd l own cc nL ini pc f := by
  intro d K hK c c' hpc hf
  obtain ⟨hw, hgo⟩ := h K c c' hpc hf
  refine ⟨by rw [hw]; exact ⟨Nat.le_refl _, Nat.le_refl _⟩, ?_⟩
  intro p e R s m args below meth co Q base ext D cA L xs n0 s0 X hin h1 h2 h3 h4 hA H locs ls st hR hS hL hst
  rw [hpc]
  refine hgo p e R s m args below meth co Q base ext D cA L xs d _ _ H locs X hR hS ls st hL hst (fun ls' st' hL' hst' => ?_)
  have := hA H locs ls' st' (by rw [hw]; exact hR) hS hL' hst'
  rw [hw] at this
  exact this
theorem zw_add (x y : Int32) : (x + y).toInt = w32 (x.toInt + y.toInt) := Int32.toInt_add x y
theorem zw_sub (x y : Int32) : (x - y).toInt = w32 (x.toInt - y.toInt) := Int32.toInt_sub x y
theorem zw_mul (x y : Int32) : (x * y).toInt = w32 (x.toInt * y.toInt) := Int32.toInt_mul x y
theorem zw_neg (x : Int32) : (-x).toInt = w32 (-x.toInt) := Int32.toInt_neg x
theorem zw_div (x y : Int32) : (x / y).toInt = z_div x.toInt y.toInt := Int32.toInt_div x y
theorem zw_rem (x y : Int32) : (x - x / y * y).toInt = z_rem x.toInt y.toInt := by
  rw [zw_sub, zw_mul, zw_div]
  rfl
theorem zw_addl (x y : Int64) : (x + y).toInt = w64 (x.toInt + y.toInt) := Int64.toInt_add x y
theorem zw_subl (x y : Int64) : (x - y).toInt = w64 (x.toInt - y.toInt) := Int64.toInt_sub x y
theorem zw_mull (x y : Int64) : (x * y).toInt = w64 (x.toInt * y.toInt) := Int64.toInt_mul x y
theorem zw_negl (x : Int64) : (-x).toInt = w64 (-x.toInt) := Int64.toInt_neg x
theorem zw_divl (x y : Int64) : (x / y).toInt = z_divl x.toInt y.toInt := Int64.toInt_div x y
theorem zw_reml (x y : Int64) : (x - x / y * y).toInt = z_reml x.toInt y.toInt := by
  rw [zw_subl, zw_mull, zw_divl]
  rfl
theorem zw_and (x y : Int32) : (x &&& y).toInt = z_and x.toInt y.toInt := by unfold z_and; rw [Int32.ofInt_toInt, Int32.ofInt_toInt]
theorem zw_or (x y : Int32) : (x ||| y).toInt = z_or x.toInt y.toInt := by unfold z_or; rw [Int32.ofInt_toInt, Int32.ofInt_toInt]
theorem zw_shl (x y : Int32) : (x <<< (y &&& 31)).toInt = z_shl x.toInt y.toInt := by unfold z_shl; rw [Int32.ofInt_toInt, Int32.ofInt_toInt]
theorem zw_shr (x y : Int32) : (x >>> (y &&& 31)).toInt = z_shr x.toInt y.toInt := by unfold z_shr; rw [Int32.ofInt_toInt, Int32.ofInt_toInt]
theorem zw_ushr (x y : Int32) : (x.toUInt32 >>> (y.toUInt32 &&& Int32.toUInt32 31)).toInt32.toInt = z_ushr x.toInt y.toInt := by unfold z_ushr; rw [Int32.ofInt_toInt, Int32.ofInt_toInt]
theorem zw_andl (x y : Int64) : (x &&& y).toInt = z_andl x.toInt y.toInt := by unfold z_andl; rw [Int64.ofInt_toInt, Int64.ofInt_toInt]
theorem zw_orl (x y : Int64) : (x ||| y).toInt = z_orl x.toInt y.toInt := by unfold z_orl; rw [Int64.ofInt_toInt, Int64.ofInt_toInt]
theorem zw_shll (x : Int64) (y : Int32) : (x <<< (y.toInt64 &&& 63)).toInt = z_shll x.toInt y.toInt := by unfold z_shll; rw [Int64.ofInt_toInt, Int32.ofInt_toInt]
theorem zw_ushrl (x : Int64) (y : Int32) : (x.toUInt64 >>> (y.toInt64.toUInt64 &&& Int64.toUInt64 63)).toInt64.toInt = z_ushrl x.toInt y.toInt := by unfold z_ushrl; rw [Int64.ofInt_toInt, Int32.ofInt_toInt]
theorem zi_nz {x : Int32} (h : ¬ x.toInt = 0) : ¬ x = 0 := fun q => h (by rw [q]; rfl)
theorem zl_nz {x : Int64} (h : ¬ x.toInt = 0) : ¬ x = 0 := fun q => h (by rw [q]; rfl)
theorem zi_eq {x y : Int32} : x = y ↔ x.toInt = y.toInt := Int32.toInt_inj.symm
theorem zi_lt {x y : Int32} : x < y ↔ x.toInt < y.toInt := Int32.lt_iff_toInt_lt
theorem zi_le {x y : Int32} : x ≤ y ↔ x.toInt ≤ y.toInt := Int32.le_iff_toInt_le
theorem zi_0 : (0 : Int32).toInt = 0 := rfl
section ZS
variable {l : Launch} {own : String} {cc : ByteArray} {nL pc : Nat}
theorem zs_iconst {n z : Int} (hd : decode cc pc = .ok (.iconst n, 1)) (hv : (Int32.ofInt n).toInt = z) : zFl l own cc nL pc (zm_push (pc + 1) z) := by
  intro K c c' hpc hf
  obtain rfl := Sum.inl.inj (Option.some.inj hf)
  refine ⟨rfl, ?_⟩
  intro p e R s m args below meth co Q base ext D cA L xs d cells slots H locs X hR hS ls st hL hst k
  obtain ⟨hx, hb, hml, hown, hts, hKs, hfr, hlo⟩ := X
  exact lv_iconst hx hb hd rfl (k ls _ hL ⟨⟨_, rfl, hv⟩, hst⟩)
theorem zs_bipush {n z : Int} (hd : decode cc pc = .ok (.bipush n, 2)) (hv : (Int8.ofInt n).toInt32.toInt = z) : zFl l own cc nL pc (zm_push (pc + 2) z) := by
  intro K c c' hpc hf
  obtain rfl := Sum.inl.inj (Option.some.inj hf)
  refine ⟨rfl, ?_⟩
  intro p e R s m args below meth co Q base ext D cA L xs d cells slots H locs X hR hS ls st hL hst k
  obtain ⟨hx, hb, hml, hown, hts, hKs, hfr, hlo⟩ := X
  exact lv_bipush hx hb hd rfl (k ls _ hL ⟨⟨_, rfl, hv⟩, hst⟩)
theorem zs_sipush {n z : Int} (hd : decode cc pc = .ok (.sipush n, 3)) (hv : (Int16.ofInt n).toInt32.toInt = z) : zFl l own cc nL pc (zm_push (pc + 3) z) := by
  intro K c c' hpc hf
  obtain rfl := Sum.inl.inj (Option.some.inj hf)
  refine ⟨rfl, ?_⟩
  intro p e R s m args below meth co Q base ext D cA L xs d cells slots H locs X hR hS ls st hL hst k
  obtain ⟨hx, hb, hml, hown, hts, hKs, hfr, hlo⟩ := X
  exact lv_sipush hx hb hd rfl (k ls _ hL ⟨⟨_, rfl, hv⟩, hst⟩)
theorem zs_lconst {n : Fin 2} {z : Int} (hd : decode cc pc = .ok (.lconst n, 1)) (hv : (Int64.ofNat (n : Nat)).toInt = z) : zFl l own cc nL pc (zm_pushl (pc + 1) z) := by
  intro K c c' hpc hf
  obtain rfl := Sum.inl.inj (Option.some.inj hf)
  refine ⟨rfl, ?_⟩
  intro p e R s m args below meth co Q base ext D cA L xs d cells slots H locs X hR hS ls st hL hst k
  obtain ⟨hx, hb, hml, hown, hts, hKs, hfr, hlo⟩ := X
  exact lv_lconst hx hb hd rfl (k ls _ hL ⟨⟨_, rfl, hv⟩, hst⟩)
theorem zs_ldc {ix : Nat} {v : Int32} {z : Int} (hd : decode cc pc = .ok (.ldc ix, 2)) (hw : Cond.constant own ix v ∈ zG) (hv : v.toInt = z) : zFl l own cc nL pc (zm_push (pc + 2) z) := by
  intro K c c' hpc hf
  obtain rfl := Sum.inl.inj (Option.some.inj hf)
  refine ⟨rfl, ?_⟩
  intro p e R s m args below meth co Q base ext D cA L xs d cells slots H locs X hR hS ls st hL hst k
  obtain ⟨hx, hb, hml, hown, hts, hKs, hfr, hlo⟩ := X
  exact lv_ldc hx hb hown (hts _ hw) hd (k ls _ hL ⟨⟨_, rfl, hv⟩, hst⟩)
theorem zs_ldcw {ix : Nat} {v : Int32} {z : Int} (hd : decode cc pc = .ok (.ldc_w ix, 3)) (hw : Cond.constant own ix v ∈ zG) (hv : v.toInt = z) : zFl l own cc nL pc (zm_push (pc + 3) z) := by
  intro K c c' hpc hf
  obtain rfl := Sum.inl.inj (Option.some.inj hf)
  refine ⟨rfl, ?_⟩
  intro p e R s m args below meth co Q base ext D cA L xs d cells slots H locs X hR hS ls st hL hst k
  obtain ⟨hx, hb, hml, hown, hts, hKs, hfr, hlo⟩ := X
  exact lv_ldcw hx hb hown (hts _ hw) hd (k ls _ hL ⟨⟨_, rfl, hv⟩, hst⟩)
theorem zs_ldc2 {ix : Nat} {v : Int64} {z : Int} (hd : decode cc pc = .ok (.ldc2_w ix, 3)) (hw : Cond.constantLong own ix v ∈ zG) (hv : v.toInt = z) : zFl l own cc nL pc (zm_pushl (pc + 3) z) := by
  intro K c c' hpc hf
  obtain rfl := Sum.inl.inj (Option.some.inj hf)
  refine ⟨rfl, ?_⟩
  intro p e R s m args below meth co Q base ext D cA L xs d cells slots H locs X hR hS ls st hL hst k
  obtain ⟨hx, hb, hml, hown, hts, hKs, hfr, hlo⟩ := X
  exact lv_ldc2 hx hb hown (hts _ hw) hd (k ls _ hL ⟨⟨_, rfl, hv⟩, hst⟩)
theorem zs_iload_n {q : Fin 4} {i : Nat} (hi : (q : Nat) = i) (hd : decode cc pc = .ok (.iload_n q, 1)) : zFl l own cc nL pc (zm_iload (pc + 1) i) := by
  intro K c c' hpc hf
  unfold zm_iload at hf
  split at hf
  · rename_i z heq
    obtain rfl := Sum.inl.inj (Option.some.inj hf)
    refine ⟨rfl, ?_⟩
    intro p e R s m args below meth co Q base ext D cA L xs d cells slots H locs X hR hS ls st hL hst k
    obtain ⟨hx, hb, hml, hown, hts, hKs, hfr, hlo⟩ := X
    obtain ⟨u, hg, x, rfl, hx2⟩ := zRL_get hL heq
    exact lv_iload_n hx hb hd hi hg (k ls _ hL ⟨⟨x, rfl, hx2⟩, hst⟩)
  · cases hf
theorem zs_iload {i : Nat} (hd : decode cc pc = .ok (.iload i, 2)) : zFl l own cc nL pc (zm_iload (pc + 2) i) := by
  intro K c c' hpc hf
  unfold zm_iload at hf
  split at hf
  · rename_i z heq
    obtain rfl := Sum.inl.inj (Option.some.inj hf)
    refine ⟨rfl, ?_⟩
    intro p e R s m args below meth co Q base ext D cA L xs d cells slots H locs X hR hS ls st hL hst k
    obtain ⟨hx, hb, hml, hown, hts, hKs, hfr, hlo⟩ := X
    obtain ⟨u, hg, x, rfl, hx2⟩ := zRL_get hL heq
    exact lv_iload hx hb hd  hg (k ls _ hL ⟨⟨x, rfl, hx2⟩, hst⟩)
  · cases hf
theorem zs_lload_n {q : Fin 4} {i : Nat} (hi : (q : Nat) = i) (hd : decode cc pc = .ok (.lload_n q, 1)) : zFl l own cc nL pc (zm_lload (pc + 1) i) := by
  intro K c c' hpc hf
  unfold zm_lload at hf
  split at hf
  · rename_i z heq
    obtain rfl := Sum.inl.inj (Option.some.inj hf)
    refine ⟨rfl, ?_⟩
    intro p e R s m args below meth co Q base ext D cA L xs d cells slots H locs X hR hS ls st hL hst k
    obtain ⟨hx, hb, hml, hown, hts, hKs, hfr, hlo⟩ := X
    obtain ⟨u, hg, x, rfl, hx2⟩ := zRL_get hL heq
    exact lv_lload_n hx hb hd hi hg (k ls _ hL ⟨⟨x, rfl, hx2⟩, hst⟩)
  · cases hf
theorem zs_lload {i : Nat} (hd : decode cc pc = .ok (.lload i, 2)) : zFl l own cc nL pc (zm_lload (pc + 2) i) := by
  intro K c c' hpc hf
  unfold zm_lload at hf
  split at hf
  · rename_i z heq
    obtain rfl := Sum.inl.inj (Option.some.inj hf)
    refine ⟨rfl, ?_⟩
    intro p e R s m args below meth co Q base ext D cA L xs d cells slots H locs X hR hS ls st hL hst k
    obtain ⟨hx, hb, hml, hown, hts, hKs, hfr, hlo⟩ := X
    obtain ⟨u, hg, x, rfl, hx2⟩ := zRL_get hL heq
    exact lv_lload hx hb hd  hg (k ls _ hL ⟨⟨x, rfl, hx2⟩, hst⟩)
  · cases hf
theorem zs_aload_n {q : Fin 4} {i : Nat} (hi : (q : Nat) = i) (hd : decode cc pc = .ok (.aload_n q, 1)) : zFl l own cc nL pc (zm_aload (pc + 1) i) := by
  intro K c c' hpc hf
  unfold zm_aload at hf
  split at hf
  · rename_i z heq
    obtain rfl := Sum.inl.inj (Option.some.inj hf)
    refine ⟨rfl, ?_⟩
    intro p e R s m args below meth co Q base ext D cA L xs d cells slots H locs X hR hS ls st hL hst k
    obtain ⟨hx, hb, hml, hown, hts, hKs, hfr, hlo⟩ := X
    obtain ⟨u, hg, rfl⟩ := zRL_get hL heq
    exact lv_aload_n hx hb hd hi hg (k ls _ hL ⟨rfl, hst⟩)
  · cases hf
theorem zs_aload {i : Nat} (hd : decode cc pc = .ok (.aload i, 2)) : zFl l own cc nL pc (zm_aload (pc + 2) i) := by
  intro K c c' hpc hf
  unfold zm_aload at hf
  split at hf
  · rename_i z heq
    obtain rfl := Sum.inl.inj (Option.some.inj hf)
    refine ⟨rfl, ?_⟩
    intro p e R s m args below meth co Q base ext D cA L xs d cells slots H locs X hR hS ls st hL hst k
    obtain ⟨hx, hb, hml, hown, hts, hKs, hfr, hlo⟩ := X
    obtain ⟨u, hg, rfl⟩ := zRL_get hL heq
    exact lv_aload hx hb hd  hg (k ls _ hL ⟨rfl, hst⟩)
  · cases hf
theorem zs_istore_n {q : Fin 4} {i : Nat} (hi : (q : Nat) = i) (hd : decode cc pc = .ok (.istore_n q, 1)) : zFl l own cc nL pc (zm_istore (pc + 1) i) := by
  intro K c c' hpc hf
  unfold zm_istore at hf
  split at hf
  · rename_i z st0 heq
    unfold zSet1 at hf
    split at hf
    · rename_i hlt
      obtain rfl := Sum.inl.inj (Option.some.inj hf)
      refine ⟨rfl, ?_⟩
      intro p e R s m args below meth co Q base ext D cA L xs d cells slots H locs X hR hS ls st hL hst k
      obtain ⟨hx, hb, hml, hown, hts, hKs, hfr, hlo⟩ := X
      rw [heq] at hst
      obtain ⟨x, k1, rfl, hx2, hst⟩ := zRS_int hst
      obtain ⟨lv, hlv, hlen, hr⟩ := hL
      exact lv_istore_n hx hb hd hi hlv (by omega) rfl (fun ls' hl' => k ls' _ (zRL_st1 hlen hr ⟨x, rfl, hx2⟩ hl') hst)
    · cases hf
  · cases hf
theorem zs_istore {i : Nat} (hd : decode cc pc = .ok (.istore i, 2)) : zFl l own cc nL pc (zm_istore (pc + 2) i) := by
  intro K c c' hpc hf
  unfold zm_istore at hf
  split at hf
  · rename_i z st0 heq
    unfold zSet1 at hf
    split at hf
    · rename_i hlt
      obtain rfl := Sum.inl.inj (Option.some.inj hf)
      refine ⟨rfl, ?_⟩
      intro p e R s m args below meth co Q base ext D cA L xs d cells slots H locs X hR hS ls st hL hst k
      obtain ⟨hx, hb, hml, hown, hts, hKs, hfr, hlo⟩ := X
      rw [heq] at hst
      obtain ⟨x, k1, rfl, hx2, hst⟩ := zRS_int hst
      obtain ⟨lv, hlv, hlen, hr⟩ := hL
      exact lv_istore hx hb hd  hlv (by omega) rfl (fun ls' hl' => k ls' _ (zRL_st1 hlen hr ⟨x, rfl, hx2⟩ hl') hst)
    · cases hf
  · cases hf
theorem zs_lstore_n {q : Fin 4} {i : Nat} (hi : (q : Nat) = i) (hd : decode cc pc = .ok (.lstore_n q, 1)) : zFl l own cc nL pc (zm_lstore (pc + 1) i) := by
  intro K c c' hpc hf
  unfold zm_lstore at hf
  split at hf
  · rename_i z st0 heq
    unfold zSet2 at hf
    split at hf
    · rename_i hlt
      obtain rfl := Sum.inl.inj (Option.some.inj hf)
      refine ⟨rfl, ?_⟩
      intro p e R s m args below meth co Q base ext D cA L xs d cells slots H locs X hR hS ls st hL hst k
      obtain ⟨hx, hb, hml, hown, hts, hKs, hfr, hlo⟩ := X
      rw [heq] at hst
      obtain ⟨x, k1, rfl, hx2, hst⟩ := zRS_long hst
      obtain ⟨lv, hlv, hlen, hr⟩ := hL
      exact lv_lstore_n hx hb hd hi hlv (by omega) rfl (fun ls' hl' => k ls' _ (zRL_st2 hlen hr ⟨x, rfl, hx2⟩ hl') hst)
    · cases hf
  · cases hf
theorem zs_lstore {i : Nat} (hd : decode cc pc = .ok (.lstore i, 2)) : zFl l own cc nL pc (zm_lstore (pc + 2) i) := by
  intro K c c' hpc hf
  unfold zm_lstore at hf
  split at hf
  · rename_i z st0 heq
    unfold zSet2 at hf
    split at hf
    · rename_i hlt
      obtain rfl := Sum.inl.inj (Option.some.inj hf)
      refine ⟨rfl, ?_⟩
      intro p e R s m args below meth co Q base ext D cA L xs d cells slots H locs X hR hS ls st hL hst k
      obtain ⟨hx, hb, hml, hown, hts, hKs, hfr, hlo⟩ := X
      rw [heq] at hst
      obtain ⟨x, k1, rfl, hx2, hst⟩ := zRS_long hst
      obtain ⟨lv, hlv, hlen, hr⟩ := hL
      exact lv_lstore hx hb hd  hlv (by omega) rfl (fun ls' hl' => k ls' _ (zRL_st2 hlen hr ⟨x, rfl, hx2⟩ hl') hst)
    · cases hf
  · cases hf
theorem zs_astore_n {q : Fin 4} {i : Nat} (hi : (q : Nat) = i) (hd : decode cc pc = .ok (.astore_n q, 1)) : zFl l own cc nL pc (zm_astore (pc + 1) i) := by
  intro K c c' hpc hf
  unfold zm_astore at hf
  split at hf
  · rename_i z st0 heq
    unfold zSet1 at hf
    split at hf
    · rename_i hlt
      obtain rfl := Sum.inl.inj (Option.some.inj hf)
      refine ⟨rfl, ?_⟩
      intro p e R s m args below meth co Q base ext D cA L xs d cells slots H locs X hR hS ls st hL hst k
      obtain ⟨hx, hb, hml, hown, hts, hKs, hfr, hlo⟩ := X
      rw [heq] at hst
      obtain ⟨k1, rfl, hst2⟩ := zRS_ref hst
      clear hst
      have hst := hst2
      obtain ⟨lv, hlv, hlen, hr⟩ := hL
      exact lv_astore_n hx hb hd hi hlv (by omega) rfl (fun ls' hl' => k ls' _ (zRL_st1 hlen hr rfl hl') hst)
    · cases hf
  · cases hf
theorem zs_astore {i : Nat} (hd : decode cc pc = .ok (.astore i, 2)) : zFl l own cc nL pc (zm_astore (pc + 2) i) := by
  intro K c c' hpc hf
  unfold zm_astore at hf
  split at hf
  · rename_i z st0 heq
    unfold zSet1 at hf
    split at hf
    · rename_i hlt
      obtain rfl := Sum.inl.inj (Option.some.inj hf)
      refine ⟨rfl, ?_⟩
      intro p e R s m args below meth co Q base ext D cA L xs d cells slots H locs X hR hS ls st hL hst k
      obtain ⟨hx, hb, hml, hown, hts, hKs, hfr, hlo⟩ := X
      rw [heq] at hst
      obtain ⟨k1, rfl, hst2⟩ := zRS_ref hst
      clear hst
      have hst := hst2
      obtain ⟨lv, hlv, hlen, hr⟩ := hL
      exact lv_astore hx hb hd  hlv (by omega) rfl (fun ls' hl' => k ls' _ (zRL_st1 hlen hr rfl hl') hst)
    · cases hf
  · cases hf
theorem zs_iinc {i : Nat} {n : Int} (hn : (Int32.ofInt n).toInt = n) (hd : decode cc pc = .ok (.iinc i n, 3)) : zFl l own cc nL pc (zm_iinc (pc + 3) i n) := by
  intro K c c' hpc hf
  unfold zm_iinc at hf
  split at hf
  · rename_i z heq
    unfold zSet1 at hf
    split at hf
    · rename_i hlt
      obtain rfl := Sum.inl.inj (Option.some.inj hf)
      refine ⟨rfl, ?_⟩
      intro p e R s m args below meth co Q base ext D cA L xs d cells slots H locs X hR hS ls st hL hst k
      obtain ⟨hx, hb, hml, hown, hts, hKs, hfr, hlo⟩ := X
      obtain ⟨lv, hlv, hlen, hr⟩ := hL
      obtain ⟨u, hu, x, rfl, hx2⟩ := hr _ _ heq
      obtain ⟨kk, hkk⟩ := List.getElem?_of_mem hu
      refine lv_iinc hx hb hd hlv hkk rfl (by omega) rfl (fun ls' hl' => k ls' _ (zRL_st1 hlen hr ⟨_, rfl, ?_⟩ hl') hst)
      rw [zw_add, hx2, hn]
    · cases hf
  · cases hf
theorem zs_iincW {i : Nat} {n : Int} (hn : (Int32.ofInt n).toInt = n) (hd : decode cc pc = .ok (.iinc i n, 6)) : zFl l own cc nL pc (zm_iinc (pc + 6) i n) := by
  intro K c c' hpc hf
  unfold zm_iinc at hf
  split at hf
  · rename_i z heq
    unfold zSet1 at hf
    split at hf
    · rename_i hlt
      obtain rfl := Sum.inl.inj (Option.some.inj hf)
      refine ⟨rfl, ?_⟩
      intro p e R s m args below meth co Q base ext D cA L xs d cells slots H locs X hR hS ls st hL hst k
      obtain ⟨hx, hb, hml, hown, hts, hKs, hfr, hlo⟩ := X
      obtain ⟨lv, hlv, hlen, hr⟩ := hL
      obtain ⟨u, hu, x, rfl, hx2⟩ := hr _ _ heq
      obtain ⟨kk, hkk⟩ := List.getElem?_of_mem hu
      refine lv_iincW hx hb hd hlv hkk rfl (by omega) rfl (fun ls' hl' => k ls' _ (zRL_st1 hlen hr ⟨_, rfl, ?_⟩ hl') hst)
      rw [zw_add, hx2, hn]
    · cases hf
  · cases hf
theorem zs_dup (hd : decode cc pc = .ok (.dup, 1)) : zFl l own cc nL pc (zm_dup (pc + 1)) := by
  intro K c c' hpc hf
  unfold zm_dup at hf
  split at hf
  · rename_i v st0 heq
    split at hf
    · rename_i hc
      obtain rfl := Sum.inl.inj (Option.some.inj hf)
      refine ⟨rfl, ?_⟩
      intro p e R s m args below meth co Q base ext D cA L xs d cells slots H locs X hR hS ls st hL hst k
      obtain ⟨hx, hb, hml, hown, hts, hKs, hfr, hlo⟩ := X
      rw [heq] at hst
      obtain ⟨u, k1, rfl, hv, hst⟩ := zRS_cons hst
      exact lv_dup hx hb hd (by rw [zRV_cat hv]; exact hc) (k ls _ hL ⟨hv, hv, hst⟩)
    · cases hf
  · cases hf
theorem zs_pop (hd : decode cc pc = .ok (.pop, 1)) : zFl l own cc nL pc (zm_pop (pc + 1)) := by
  intro K c c' hpc hf
  unfold zm_pop at hf
  split at hf
  · rename_i v st0 heq
    split at hf
    · rename_i hc
      obtain rfl := Sum.inl.inj (Option.some.inj hf)
      refine ⟨rfl, ?_⟩
      intro p e R s m args below meth co Q base ext D cA L xs d cells slots H locs X hR hS ls st hL hst k
      obtain ⟨hx, hb, hml, hown, hts, hKs, hfr, hlo⟩ := X
      rw [heq] at hst
      obtain ⟨u, k1, rfl, hv, hst⟩ := zRS_cons hst
      exact lv_pop hx hb hd (by rw [zRV_cat hv]; exact hc) (k ls _ hL hst)
    · cases hf
  · cases hf
theorem zs_dup2 (hd : decode cc pc = .ok (.dup2, 1)) : zFl l own cc nL pc (zm_dup2 (pc + 1)) := by
  intro K c c' hpc hf
  unfold zm_dup2 at hf
  split at hf
  · rename_i v v2 st0 heq
    split at hf
    · rename_i hc
      obtain rfl := Sum.inl.inj (Option.some.inj hf)
      refine ⟨rfl, ?_⟩
      intro p e R s m args below meth co Q base ext D cA L xs d cells slots H locs X hR hS ls st hL hst k
      obtain ⟨hx, hb, hml, hown, hts, hKs, hfr, hlo⟩ := X
      rw [heq] at hst
      obtain ⟨u, k1, rfl, hv, hst⟩ := zRS_cons hst
      obtain ⟨u2, k2, rfl, hv2, hst⟩ := zRS_cons hst
      exact lv_dup2_11 hx hb hd (by rw [zRV_cat hv]; exact hc.1) (by rw [zRV_cat hv2]; exact hc.2) (k ls _ hL ⟨hv, hv2, hv, hv2, hst⟩)
    · cases hf
  · cases hf
theorem zs_iadd (hd : decode cc pc = .ok (.iadd, 1)) : zFl l own cc nL pc (zm_bin (pc + 1) (fun x y => w32 (x + y))) := by
  intro K c c' hpc hf
  unfold zm_bin at hf
  split at hf
  · rename_i y0 x0 st0 heq
    obtain rfl := Sum.inl.inj (Option.some.inj hf)
    refine ⟨rfl, ?_⟩
    intro p e R s m args below meth co Q base ext D cA L xs d cells slots H locs X hR hS ls st hL hst k
    obtain ⟨hx, hb, hml, hown, hts, hKs, hfr, hlo⟩ := X
    rw [heq] at hst
    obtain ⟨y, k1, rfl, hy, hst⟩ := zRS_int hst
    obtain ⟨x, k2, rfl, hx2, hst⟩ := zRS_int hst
    exact lv_iadd hx hb hd  (k ls _ hL ⟨⟨_, rfl, by rw [zw_add, hx2, hy]⟩, hst⟩)
  · cases hf
theorem zs_isub (hd : decode cc pc = .ok (.isub, 1)) : zFl l own cc nL pc (zm_bin (pc + 1) (fun x y => w32 (x - y))) := by
  intro K c c' hpc hf
  unfold zm_bin at hf
  split at hf
  · rename_i y0 x0 st0 heq
    obtain rfl := Sum.inl.inj (Option.some.inj hf)
    refine ⟨rfl, ?_⟩
    intro p e R s m args below meth co Q base ext D cA L xs d cells slots H locs X hR hS ls st hL hst k
    obtain ⟨hx, hb, hml, hown, hts, hKs, hfr, hlo⟩ := X
    rw [heq] at hst
    obtain ⟨y, k1, rfl, hy, hst⟩ := zRS_int hst
    obtain ⟨x, k2, rfl, hx2, hst⟩ := zRS_int hst
    exact lv_isub hx hb hd  (k ls _ hL ⟨⟨_, rfl, by rw [zw_sub, hx2, hy]⟩, hst⟩)
  · cases hf
theorem zs_imul (hd : decode cc pc = .ok (.imul, 1)) : zFl l own cc nL pc (zm_bin (pc + 1) (fun x y => w32 (x * y))) := by
  intro K c c' hpc hf
  unfold zm_bin at hf
  split at hf
  · rename_i y0 x0 st0 heq
    obtain rfl := Sum.inl.inj (Option.some.inj hf)
    refine ⟨rfl, ?_⟩
    intro p e R s m args below meth co Q base ext D cA L xs d cells slots H locs X hR hS ls st hL hst k
    obtain ⟨hx, hb, hml, hown, hts, hKs, hfr, hlo⟩ := X
    rw [heq] at hst
    obtain ⟨y, k1, rfl, hy, hst⟩ := zRS_int hst
    obtain ⟨x, k2, rfl, hx2, hst⟩ := zRS_int hst
    exact lv_imul hx hb hd  (k ls _ hL ⟨⟨_, rfl, by rw [zw_mul, hx2, hy]⟩, hst⟩)
  · cases hf
theorem zs_iand (hd : decode cc pc = .ok (.iand, 1)) : zFl l own cc nL pc (zm_bin (pc + 1) z_and) := by
  intro K c c' hpc hf
  unfold zm_bin at hf
  split at hf
  · rename_i y0 x0 st0 heq
    obtain rfl := Sum.inl.inj (Option.some.inj hf)
    refine ⟨rfl, ?_⟩
    intro p e R s m args below meth co Q base ext D cA L xs d cells slots H locs X hR hS ls st hL hst k
    obtain ⟨hx, hb, hml, hown, hts, hKs, hfr, hlo⟩ := X
    rw [heq] at hst
    obtain ⟨y, k1, rfl, hy, hst⟩ := zRS_int hst
    obtain ⟨x, k2, rfl, hx2, hst⟩ := zRS_int hst
    exact lv_iand hx hb hd  (k ls _ hL ⟨⟨_, rfl, by rw [zw_and, hx2, hy]⟩, hst⟩)
  · cases hf
theorem zs_ior (hd : decode cc pc = .ok (.ior, 1)) : zFl l own cc nL pc (zm_bin (pc + 1) z_or) := by
  intro K c c' hpc hf
  unfold zm_bin at hf
  split at hf
  · rename_i y0 x0 st0 heq
    obtain rfl := Sum.inl.inj (Option.some.inj hf)
    refine ⟨rfl, ?_⟩
    intro p e R s m args below meth co Q base ext D cA L xs d cells slots H locs X hR hS ls st hL hst k
    obtain ⟨hx, hb, hml, hown, hts, hKs, hfr, hlo⟩ := X
    rw [heq] at hst
    obtain ⟨y, k1, rfl, hy, hst⟩ := zRS_int hst
    obtain ⟨x, k2, rfl, hx2, hst⟩ := zRS_int hst
    exact lv_ior hx hb hd  (k ls _ hL ⟨⟨_, rfl, by rw [zw_or, hx2, hy]⟩, hst⟩)
  · cases hf
theorem zs_ishl (hd : decode cc pc = .ok (.ishl, 1)) : zFl l own cc nL pc (zm_bin (pc + 1) z_shl) := by
  intro K c c' hpc hf
  unfold zm_bin at hf
  split at hf
  · rename_i y0 x0 st0 heq
    obtain rfl := Sum.inl.inj (Option.some.inj hf)
    refine ⟨rfl, ?_⟩
    intro p e R s m args below meth co Q base ext D cA L xs d cells slots H locs X hR hS ls st hL hst k
    obtain ⟨hx, hb, hml, hown, hts, hKs, hfr, hlo⟩ := X
    rw [heq] at hst
    obtain ⟨y, k1, rfl, hy, hst⟩ := zRS_int hst
    obtain ⟨x, k2, rfl, hx2, hst⟩ := zRS_int hst
    exact lv_ishl hx hb hd  (k ls _ hL ⟨⟨_, rfl, by rw [zw_shl, hx2, hy]⟩, hst⟩)
  · cases hf
theorem zs_ishr (hd : decode cc pc = .ok (.ishr, 1)) : zFl l own cc nL pc (zm_bin (pc + 1) z_shr) := by
  intro K c c' hpc hf
  unfold zm_bin at hf
  split at hf
  · rename_i y0 x0 st0 heq
    obtain rfl := Sum.inl.inj (Option.some.inj hf)
    refine ⟨rfl, ?_⟩
    intro p e R s m args below meth co Q base ext D cA L xs d cells slots H locs X hR hS ls st hL hst k
    obtain ⟨hx, hb, hml, hown, hts, hKs, hfr, hlo⟩ := X
    rw [heq] at hst
    obtain ⟨y, k1, rfl, hy, hst⟩ := zRS_int hst
    obtain ⟨x, k2, rfl, hx2, hst⟩ := zRS_int hst
    exact lv_ishr hx hb hd  (k ls _ hL ⟨⟨_, rfl, by rw [zw_shr, hx2, hy]⟩, hst⟩)
  · cases hf
theorem zs_iushr (hd : decode cc pc = .ok (.iushr, 1)) : zFl l own cc nL pc (zm_bin (pc + 1) z_ushr) := by
  intro K c c' hpc hf
  unfold zm_bin at hf
  split at hf
  · rename_i y0 x0 st0 heq
    obtain rfl := Sum.inl.inj (Option.some.inj hf)
    refine ⟨rfl, ?_⟩
    intro p e R s m args below meth co Q base ext D cA L xs d cells slots H locs X hR hS ls st hL hst k
    obtain ⟨hx, hb, hml, hown, hts, hKs, hfr, hlo⟩ := X
    rw [heq] at hst
    obtain ⟨y, k1, rfl, hy, hst⟩ := zRS_int hst
    obtain ⟨x, k2, rfl, hx2, hst⟩ := zRS_int hst
    exact lv_iushr hx hb hd rfl (k ls _ hL ⟨⟨_, rfl, by rw [zw_ushr, hx2, hy]⟩, hst⟩)
  · cases hf
theorem zs_ladd (hd : decode cc pc = .ok (.ladd, 1)) : zFl l own cc nL pc (zm_binl (pc + 1) (fun x y => w64 (x + y))) := by
  intro K c c' hpc hf
  unfold zm_binl at hf
  split at hf
  · rename_i y0 x0 st0 heq
    obtain rfl := Sum.inl.inj (Option.some.inj hf)
    refine ⟨rfl, ?_⟩
    intro p e R s m args below meth co Q base ext D cA L xs d cells slots H locs X hR hS ls st hL hst k
    obtain ⟨hx, hb, hml, hown, hts, hKs, hfr, hlo⟩ := X
    rw [heq] at hst
    obtain ⟨y, k1, rfl, hy, hst⟩ := zRS_long hst
    obtain ⟨x, k2, rfl, hx2, hst⟩ := zRS_long hst
    exact lv_ladd hx hb hd  (k ls _ hL ⟨⟨_, rfl, by rw [zw_addl, hx2, hy]⟩, hst⟩)
  · cases hf
theorem zs_lsub (hd : decode cc pc = .ok (.lsub, 1)) : zFl l own cc nL pc (zm_binl (pc + 1) (fun x y => w64 (x - y))) := by
  intro K c c' hpc hf
  unfold zm_binl at hf
  split at hf
  · rename_i y0 x0 st0 heq
    obtain rfl := Sum.inl.inj (Option.some.inj hf)
    refine ⟨rfl, ?_⟩
    intro p e R s m args below meth co Q base ext D cA L xs d cells slots H locs X hR hS ls st hL hst k
    obtain ⟨hx, hb, hml, hown, hts, hKs, hfr, hlo⟩ := X
    rw [heq] at hst
    obtain ⟨y, k1, rfl, hy, hst⟩ := zRS_long hst
    obtain ⟨x, k2, rfl, hx2, hst⟩ := zRS_long hst
    exact lv_lsub hx hb hd  (k ls _ hL ⟨⟨_, rfl, by rw [zw_subl, hx2, hy]⟩, hst⟩)
  · cases hf
theorem zs_lmul (hd : decode cc pc = .ok (.lmul, 1)) : zFl l own cc nL pc (zm_binl (pc + 1) (fun x y => w64 (x * y))) := by
  intro K c c' hpc hf
  unfold zm_binl at hf
  split at hf
  · rename_i y0 x0 st0 heq
    obtain rfl := Sum.inl.inj (Option.some.inj hf)
    refine ⟨rfl, ?_⟩
    intro p e R s m args below meth co Q base ext D cA L xs d cells slots H locs X hR hS ls st hL hst k
    obtain ⟨hx, hb, hml, hown, hts, hKs, hfr, hlo⟩ := X
    rw [heq] at hst
    obtain ⟨y, k1, rfl, hy, hst⟩ := zRS_long hst
    obtain ⟨x, k2, rfl, hx2, hst⟩ := zRS_long hst
    exact lv_lmul hx hb hd  (k ls _ hL ⟨⟨_, rfl, by rw [zw_mull, hx2, hy]⟩, hst⟩)
  · cases hf
theorem zs_land (hd : decode cc pc = .ok (.land, 1)) : zFl l own cc nL pc (zm_binl (pc + 1) z_andl) := by
  intro K c c' hpc hf
  unfold zm_binl at hf
  split at hf
  · rename_i y0 x0 st0 heq
    obtain rfl := Sum.inl.inj (Option.some.inj hf)
    refine ⟨rfl, ?_⟩
    intro p e R s m args below meth co Q base ext D cA L xs d cells slots H locs X hR hS ls st hL hst k
    obtain ⟨hx, hb, hml, hown, hts, hKs, hfr, hlo⟩ := X
    rw [heq] at hst
    obtain ⟨y, k1, rfl, hy, hst⟩ := zRS_long hst
    obtain ⟨x, k2, rfl, hx2, hst⟩ := zRS_long hst
    exact lv_land hx hb hd  (k ls _ hL ⟨⟨_, rfl, by rw [zw_andl, hx2, hy]⟩, hst⟩)
  · cases hf
theorem zs_lor (hd : decode cc pc = .ok (.lor, 1)) : zFl l own cc nL pc (zm_binl (pc + 1) z_orl) := by
  intro K c c' hpc hf
  unfold zm_binl at hf
  split at hf
  · rename_i y0 x0 st0 heq
    obtain rfl := Sum.inl.inj (Option.some.inj hf)
    refine ⟨rfl, ?_⟩
    intro p e R s m args below meth co Q base ext D cA L xs d cells slots H locs X hR hS ls st hL hst k
    obtain ⟨hx, hb, hml, hown, hts, hKs, hfr, hlo⟩ := X
    rw [heq] at hst
    obtain ⟨y, k1, rfl, hy, hst⟩ := zRS_long hst
    obtain ⟨x, k2, rfl, hx2, hst⟩ := zRS_long hst
    exact lv_lor hx hb hd  (k ls _ hL ⟨⟨_, rfl, by rw [zw_orl, hx2, hy]⟩, hst⟩)
  · cases hf
theorem zs_idiv (hd : decode cc pc = .ok (.idiv, 1)) : zFl l own cc nL pc (zm_quo (pc + 1) z_div) := by
  intro K c c' hpc hf
  unfold zm_quo at hf
  split at hf
  · rename_i y0 x0 st0 heq
    split at hf
    · cases hf
    rename_i hq
    obtain rfl := Sum.inl.inj (Option.some.inj hf)
    refine ⟨rfl, ?_⟩
    intro p e R s m args below meth co Q base ext D cA L xs d cells slots H locs X hR hS ls st hL hst k
    obtain ⟨hx, hb, hml, hown, hts, hKs, hfr, hlo⟩ := X
    rw [heq] at hst
    obtain ⟨y, k1, rfl, hy, hst⟩ := zRS_int hst
    obtain ⟨x, k2, rfl, hx2, hst⟩ := zRS_int hst
    exact lv_idiv hx hb hd (zi_nz (by rw [hy]; exact hq)) (k ls _ hL ⟨⟨_, rfl, by rw [zw_div, hx2, hy]⟩, hst⟩)
  · cases hf
theorem zs_irem (hd : decode cc pc = .ok (.irem, 1)) : zFl l own cc nL pc (zm_quo (pc + 1) z_rem) := by
  intro K c c' hpc hf
  unfold zm_quo at hf
  split at hf
  · rename_i y0 x0 st0 heq
    split at hf
    · cases hf
    rename_i hq
    obtain rfl := Sum.inl.inj (Option.some.inj hf)
    refine ⟨rfl, ?_⟩
    intro p e R s m args below meth co Q base ext D cA L xs d cells slots H locs X hR hS ls st hL hst k
    obtain ⟨hx, hb, hml, hown, hts, hKs, hfr, hlo⟩ := X
    rw [heq] at hst
    obtain ⟨y, k1, rfl, hy, hst⟩ := zRS_int hst
    obtain ⟨x, k2, rfl, hx2, hst⟩ := zRS_int hst
    exact lv_irem hx hb hd (zi_nz (by rw [hy]; exact hq)) (k ls _ hL ⟨⟨_, rfl, by rw [zw_rem, hx2, hy]⟩, hst⟩)
  · cases hf
theorem zs_ldiv (hd : decode cc pc = .ok (.ldiv, 1)) : zFl l own cc nL pc (zm_quol (pc + 1) z_divl) := by
  intro K c c' hpc hf
  unfold zm_quol at hf
  split at hf
  · rename_i y0 x0 st0 heq
    split at hf
    · cases hf
    rename_i hq
    obtain rfl := Sum.inl.inj (Option.some.inj hf)
    refine ⟨rfl, ?_⟩
    intro p e R s m args below meth co Q base ext D cA L xs d cells slots H locs X hR hS ls st hL hst k
    obtain ⟨hx, hb, hml, hown, hts, hKs, hfr, hlo⟩ := X
    rw [heq] at hst
    obtain ⟨y, k1, rfl, hy, hst⟩ := zRS_long hst
    obtain ⟨x, k2, rfl, hx2, hst⟩ := zRS_long hst
    exact lv_ldiv hx hb hd (zl_nz (by rw [hy]; exact hq)) (k ls _ hL ⟨⟨_, rfl, by rw [zw_divl, hx2, hy]⟩, hst⟩)
  · cases hf
theorem zs_lrem (hd : decode cc pc = .ok (.lrem, 1)) : zFl l own cc nL pc (zm_quol (pc + 1) z_reml) := by
  intro K c c' hpc hf
  unfold zm_quol at hf
  split at hf
  · rename_i y0 x0 st0 heq
    split at hf
    · cases hf
    rename_i hq
    obtain rfl := Sum.inl.inj (Option.some.inj hf)
    refine ⟨rfl, ?_⟩
    intro p e R s m args below meth co Q base ext D cA L xs d cells slots H locs X hR hS ls st hL hst k
    obtain ⟨hx, hb, hml, hown, hts, hKs, hfr, hlo⟩ := X
    rw [heq] at hst
    obtain ⟨y, k1, rfl, hy, hst⟩ := zRS_long hst
    obtain ⟨x, k2, rfl, hx2, hst⟩ := zRS_long hst
    exact lv_lrem hx hb hd (zl_nz (by rw [hy]; exact hq)) (k ls _ hL ⟨⟨_, rfl, by rw [zw_reml, hx2, hy]⟩, hst⟩)
  · cases hf
theorem zs_lshl (hd : decode cc pc = .ok (.lshl, 1)) : zFl l own cc nL pc (zm_shl (pc + 1) z_shll) := by
  intro K c c' hpc hf
  unfold zm_shl at hf
  split at hf
  · rename_i y0 x0 st0 heq
    obtain rfl := Sum.inl.inj (Option.some.inj hf)
    refine ⟨rfl, ?_⟩
    intro p e R s m args below meth co Q base ext D cA L xs d cells slots H locs X hR hS ls st hL hst k
    obtain ⟨hx, hb, hml, hown, hts, hKs, hfr, hlo⟩ := X
    rw [heq] at hst
    obtain ⟨y, k1, rfl, hy, hst⟩ := zRS_int hst
    obtain ⟨x, k2, rfl, hx2, hst⟩ := zRS_long hst
    exact lv_lshl hx hb hd rfl (k ls _ hL ⟨⟨_, rfl, by rw [zw_shll, hx2, hy]⟩, hst⟩)
  · cases hf
theorem zs_lushr (hd : decode cc pc = .ok (.lushr, 1)) : zFl l own cc nL pc (zm_shl (pc + 1) z_ushrl) := by
  intro K c c' hpc hf
  unfold zm_shl at hf
  split at hf
  · rename_i y0 x0 st0 heq
    obtain rfl := Sum.inl.inj (Option.some.inj hf)
    refine ⟨rfl, ?_⟩
    intro p e R s m args below meth co Q base ext D cA L xs d cells slots H locs X hR hS ls st hL hst k
    obtain ⟨hx, hb, hml, hown, hts, hKs, hfr, hlo⟩ := X
    rw [heq] at hst
    obtain ⟨y, k1, rfl, hy, hst⟩ := zRS_int hst
    obtain ⟨x, k2, rfl, hx2, hst⟩ := zRS_long hst
    exact lv_lushr hx hb hd rfl (k ls _ hL ⟨⟨_, rfl, by rw [zw_ushrl, hx2, hy]⟩, hst⟩)
  · cases hf
theorem zs_ineg (hd : decode cc pc = .ok (.ineg, 1)) : zFl l own cc nL pc (zm_un (pc + 1) (fun x => w32 (-x))) := by
  intro K c c' hpc hf
  unfold zm_un at hf
  split at hf
  · rename_i x0 st0 heq
    obtain rfl := Sum.inl.inj (Option.some.inj hf)
    refine ⟨rfl, ?_⟩
    intro p e R s m args below meth co Q base ext D cA L xs d cells slots H locs X hR hS ls st hL hst k
    obtain ⟨hx, hb, hml, hown, hts, hKs, hfr, hlo⟩ := X
    rw [heq] at hst
    obtain ⟨x, k2, rfl, hx2, hst⟩ := zRS_int hst
    exact lv_ineg hx hb hd  (k ls _ hL ⟨⟨_, rfl, by rw [zw_neg, hx2]⟩, hst⟩)
  · cases hf
theorem zs_lneg (hd : decode cc pc = .ok (.lneg, 1)) : zFl l own cc nL pc (zm_unl (pc + 1) (fun x => w64 (-x))) := by
  intro K c c' hpc hf
  unfold zm_unl at hf
  split at hf
  · rename_i x0 st0 heq
    obtain rfl := Sum.inl.inj (Option.some.inj hf)
    refine ⟨rfl, ?_⟩
    intro p e R s m args below meth co Q base ext D cA L xs d cells slots H locs X hR hS ls st hL hst k
    obtain ⟨hx, hb, hml, hown, hts, hKs, hfr, hlo⟩ := X
    rw [heq] at hst
    obtain ⟨x, k2, rfl, hx2, hst⟩ := zRS_long hst
    exact lv_lneg hx hb hd  (k ls _ hL ⟨⟨_, rfl, by rw [zw_negl, hx2]⟩, hst⟩)
  · cases hf
theorem zs_i2l (hd : decode cc pc = .ok (.i2l, 1)) : zFl l own cc nL pc (zm_i2l (pc + 1)) := by
  intro K c c' hpc hf
  unfold zm_i2l at hf
  split at hf
  · rename_i x0 st0 heq
    obtain rfl := Sum.inl.inj (Option.some.inj hf)
    refine ⟨rfl, ?_⟩
    intro p e R s m args below meth co Q base ext D cA L xs d cells slots H locs X hR hS ls st hL hst k
    obtain ⟨hx, hb, hml, hown, hts, hKs, hfr, hlo⟩ := X
    rw [heq] at hst
    obtain ⟨x, k2, rfl, hx2, hst⟩ := zRS_int hst
    exact lv_i2l hx hb hd rfl (k ls _ hL ⟨⟨_, rfl, by rw [Int32.toInt_toInt64, hx2]⟩, hst⟩)
  · cases hf
theorem zs_l2i (hd : decode cc pc = .ok (.l2i, 1)) : zFl l own cc nL pc (zm_l2i (pc + 1)) := by
  intro K c c' hpc hf
  unfold zm_l2i at hf
  split at hf
  · rename_i x0 st0 heq
    obtain rfl := Sum.inl.inj (Option.some.inj hf)
    refine ⟨rfl, ?_⟩
    intro p e R s m args below meth co Q base ext D cA L xs d cells slots H locs X hR hS ls st hL hst k
    obtain ⟨hx, hb, hml, hown, hts, hKs, hfr, hlo⟩ := X
    rw [heq] at hst
    obtain ⟨x, k2, rfl, hx2, hst⟩ := zRS_long hst
    exact lv_l2i hx hb hd rfl (k ls _ hL ⟨⟨_, rfl, by rw [← hx2]; unfold z_l2i; rw [Int64.ofInt_toInt]⟩, hst⟩)
  · cases hf
theorem zs_i2b (hd : decode cc pc = .ok (.i2b, 1)) : zFl l own cc nL pc (zm_un (pc + 1) z_i2b) := by
  intro K c c' hpc hf
  unfold zm_un at hf
  split at hf
  · rename_i x0 st0 heq
    obtain rfl := Sum.inl.inj (Option.some.inj hf)
    refine ⟨rfl, ?_⟩
    intro p e R s m args below meth co Q base ext D cA L xs d cells slots H locs X hR hS ls st hL hst k
    obtain ⟨hx, hb, hml, hown, hts, hKs, hfr, hlo⟩ := X
    rw [heq] at hst
    obtain ⟨x, k2, rfl, hx2, hst⟩ := zRS_int hst
    exact lv_i2b hx hb hd rfl (k ls _ hL ⟨⟨_, rfl, by rw [← hx2]; unfold z_i2b; rw [Int32.ofInt_toInt]⟩, hst⟩)
  · cases hf
theorem zs_i2s (hd : decode cc pc = .ok (.i2s, 1)) : zFl l own cc nL pc (zm_un (pc + 1) z_i2s) := by
  intro K c c' hpc hf
  unfold zm_un at hf
  split at hf
  · rename_i x0 st0 heq
    obtain rfl := Sum.inl.inj (Option.some.inj hf)
    refine ⟨rfl, ?_⟩
    intro p e R s m args below meth co Q base ext D cA L xs d cells slots H locs X hR hS ls st hL hst k
    obtain ⟨hx, hb, hml, hown, hts, hKs, hfr, hlo⟩ := X
    rw [heq] at hst
    obtain ⟨x, k2, rfl, hx2, hst⟩ := zRS_int hst
    exact lv_i2s hx hb hd rfl (k ls _ hL ⟨⟨_, rfl, by rw [← hx2]; unfold z_i2s; rw [Int32.ofInt_toInt]⟩, hst⟩)
  · cases hf
theorem zs_i2c (hd : decode cc pc = .ok (.i2c, 1)) : zFl l own cc nL pc (zm_un (pc + 1) z_i2c) := by
  intro K c c' hpc hf
  unfold zm_un at hf
  split at hf
  · rename_i x0 st0 heq
    obtain rfl := Sum.inl.inj (Option.some.inj hf)
    refine ⟨rfl, ?_⟩
    intro p e R s m args below meth co Q base ext D cA L xs d cells slots H locs X hR hS ls st hL hst k
    obtain ⟨hx, hb, hml, hown, hts, hKs, hfr, hlo⟩ := X
    rw [heq] at hst
    obtain ⟨x, k2, rfl, hx2, hst⟩ := zRS_int hst
    exact lv_i2c hx hb hd rfl (k ls _ hL ⟨⟨_, rfl, by rw [← hx2]; unfold z_i2c; rw [Int32.ofInt_toInt]⟩, hst⟩)
  · cases hf
theorem zs_lcmp (hd : decode cc pc = .ok (.lcmp, 1)) : zFl l own cc nL pc (zm_lcmp (pc + 1)) := by
  intro K c c' hpc hf
  unfold zm_lcmp at hf
  split at hf
  · rename_i y0 x0 st0 heq
    obtain rfl := Sum.inl.inj (Option.some.inj hf)
    refine ⟨rfl, ?_⟩
    intro p e R s m args below meth co Q base ext D cA L xs d cells slots H locs X hR hS ls st hL hst k
    obtain ⟨hx, hb, hml, hown, hts, hKs, hfr, hlo⟩ := X
    rw [heq] at hst
    obtain ⟨y, k1, rfl, hy, hst⟩ := zRS_long hst
    obtain ⟨x, k2, rfl, hx2, hst⟩ := zRS_long hst
    refine W.lcmp hx hb hd (k ls _ hL ⟨⟨_, rfl, ?_⟩, hst⟩)
    rw [← hy, ← hx2]
    unfold lg_cmp
    have e1 : (x > y) ↔ y.toInt < x.toInt := Int64.lt_iff_toInt_lt
    have e2 : (x = y) ↔ x.toInt = y.toInt := Int64.toInt_inj.symm
    by_cases g1 : y.toInt < x.toInt
    · rw [if_pos (e1.mpr g1), if_pos g1]; rfl
    · rw [if_neg (fun q => g1 (e1.mp q)), if_neg g1]
      by_cases g2 : x.toInt = y.toInt
      · rw [if_pos (e2.mpr g2), if_pos g2]; rfl
      · rw [if_neg (fun q => g2 (e2.mp q)), if_neg g2]; rfl
  · cases hf
theorem zs_goto {off : Int} {t : Nat} (hd : decode cc pc = .ok (.goto off, 3)) (ht : (pc : Int) + off = (t : Int)) : zFl l own cc nL pc (zm_goto t) := by
  intro K c c' hpc hf
  obtain rfl := Sum.inl.inj (Option.some.inj hf)
  refine ⟨rfl, ?_⟩
  intro p e R s m args below meth co Q base ext D cA L xs d cells slots H locs X hR hS ls st hL hst k
  obtain ⟨hx, hb, hml, hown, hts, hKs, hfr, hlo⟩ := X
  exact lv_goto hx hb hd ht (k ls _ hL hst)
theorem zs_ifeq {off : Int} {t : Nat} (hd : decode cc pc = .ok (.ifCond .eq off, 3)) (ht : (pc : Int) + off = (t : Int)) : zFl l own cc nL pc (zm_ifeq (pc + 3) t) := by
  intro K c c' hpc hf
  unfold zm_ifeq at hf
  split at hf
  · rename_i x0 st0 heq
    obtain rfl := Sum.inl.inj (Option.some.inj hf)
    refine ⟨rfl, ?_⟩
    intro p e R s m args below meth co Q base ext D cA L xs d cells slots H locs X hR hS ls st hL hst k
    obtain ⟨hx, hb, hml, hown, hts, hKs, hfr, hlo⟩ := X
    rw [heq] at hst
    obtain ⟨x, k2, rfl, hx2, hst3⟩ := zRS_int hst
    clear hst
    subst hx2
    have kk := k ls k2 hL hst3
    dsimp only at kk
    refine lv_if_eq hx hb hd ht (fun g => ?_) (fun g => ?_)
    · rw [if_pos (show x.toInt = 0 from zi_eq.mp g)] at kk
      exact kk
    · rw [if_neg (fun (q : x.toInt = 0) => g (zi_eq.mpr q))] at kk
      exact kk
  · cases hf
theorem zs_iceq {off : Int} {t : Nat} (hd : decode cc pc = .ok (.if_icmp .eq off, 3)) (ht : (pc : Int) + off = (t : Int)) : zFl l own cc nL pc (zm_iceq (pc + 3) t) := by
  intro K c c' hpc hf
  unfold zm_iceq at hf
  split at hf
  · rename_i y0 x0 st0 heq
    obtain rfl := Sum.inl.inj (Option.some.inj hf)
    refine ⟨rfl, ?_⟩
    intro p e R s m args below meth co Q base ext D cA L xs d cells slots H locs X hR hS ls st hL hst k
    obtain ⟨hx, hb, hml, hown, hts, hKs, hfr, hlo⟩ := X
    rw [heq] at hst
    obtain ⟨y, k1, rfl, hy, hst2⟩ := zRS_int hst
    obtain ⟨x, k2, rfl, hx2, hst3⟩ := zRS_int hst2
    clear hst hst2
    subst hy; subst hx2
    have kk := k ls k2 hL hst3
    dsimp only at kk
    refine lv_icmp_eq hx hb hd ht (fun g => ?_) (fun g => ?_)
    · rw [if_pos (show x.toInt = y.toInt from zi_eq.mp g)] at kk
      exact kk
    · rw [if_neg (fun (q : x.toInt = y.toInt) => g (zi_eq.mpr q))] at kk
      exact kk
  · cases hf
theorem zs_ifne {off : Int} {t : Nat} (hd : decode cc pc = .ok (.ifCond .ne off, 3)) (ht : (pc : Int) + off = (t : Int)) : zFl l own cc nL pc (zm_ifne (pc + 3) t) := by
  intro K c c' hpc hf
  unfold zm_ifne at hf
  split at hf
  · rename_i x0 st0 heq
    obtain rfl := Sum.inl.inj (Option.some.inj hf)
    refine ⟨rfl, ?_⟩
    intro p e R s m args below meth co Q base ext D cA L xs d cells slots H locs X hR hS ls st hL hst k
    obtain ⟨hx, hb, hml, hown, hts, hKs, hfr, hlo⟩ := X
    rw [heq] at hst
    obtain ⟨x, k2, rfl, hx2, hst3⟩ := zRS_int hst
    clear hst
    subst hx2
    have kk := k ls k2 hL hst3
    dsimp only at kk
    refine lv_if_ne hx hb hd ht (fun g => ?_) (fun g => ?_)
    · rw [if_neg (fun (q : x.toInt = 0) => g (zi_eq.mpr q))] at kk
      exact kk
    · rw [if_pos (show x.toInt = 0 from zi_eq.mp g)] at kk
      exact kk
  · cases hf
theorem zs_icne {off : Int} {t : Nat} (hd : decode cc pc = .ok (.if_icmp .ne off, 3)) (ht : (pc : Int) + off = (t : Int)) : zFl l own cc nL pc (zm_icne (pc + 3) t) := by
  intro K c c' hpc hf
  unfold zm_icne at hf
  split at hf
  · rename_i y0 x0 st0 heq
    obtain rfl := Sum.inl.inj (Option.some.inj hf)
    refine ⟨rfl, ?_⟩
    intro p e R s m args below meth co Q base ext D cA L xs d cells slots H locs X hR hS ls st hL hst k
    obtain ⟨hx, hb, hml, hown, hts, hKs, hfr, hlo⟩ := X
    rw [heq] at hst
    obtain ⟨y, k1, rfl, hy, hst2⟩ := zRS_int hst
    obtain ⟨x, k2, rfl, hx2, hst3⟩ := zRS_int hst2
    clear hst hst2
    subst hy; subst hx2
    have kk := k ls k2 hL hst3
    dsimp only at kk
    refine lv_icmp_ne hx hb hd ht (fun g => ?_) (fun g => ?_)
    · rw [if_neg (fun (q : x.toInt = y.toInt) => g (zi_eq.mpr q))] at kk
      exact kk
    · rw [if_pos (show x.toInt = y.toInt from zi_eq.mp g)] at kk
      exact kk
  · cases hf
theorem zs_iflt {off : Int} {t : Nat} (hd : decode cc pc = .ok (.ifCond .lt off, 3)) (ht : (pc : Int) + off = (t : Int)) : zFl l own cc nL pc (zm_iflt (pc + 3) t) := by
  intro K c c' hpc hf
  unfold zm_iflt at hf
  split at hf
  · rename_i x0 st0 heq
    obtain rfl := Sum.inl.inj (Option.some.inj hf)
    refine ⟨rfl, ?_⟩
    intro p e R s m args below meth co Q base ext D cA L xs d cells slots H locs X hR hS ls st hL hst k
    obtain ⟨hx, hb, hml, hown, hts, hKs, hfr, hlo⟩ := X
    rw [heq] at hst
    obtain ⟨x, k2, rfl, hx2, hst3⟩ := zRS_int hst
    clear hst
    subst hx2
    have kk := k ls k2 hL hst3
    dsimp only at kk
    refine lv_if_lt hx hb hd ht (fun g => ?_) (fun g => ?_)
    · rw [if_pos (show x.toInt < 0 from zi_lt.mp g)] at kk
      exact kk
    · rw [if_neg (fun (q : x.toInt < 0) => g (zi_lt.mpr q))] at kk
      exact kk
  · cases hf
theorem zs_iclt {off : Int} {t : Nat} (hd : decode cc pc = .ok (.if_icmp .lt off, 3)) (ht : (pc : Int) + off = (t : Int)) : zFl l own cc nL pc (zm_iclt (pc + 3) t) := by
  intro K c c' hpc hf
  unfold zm_iclt at hf
  split at hf
  · rename_i y0 x0 st0 heq
    obtain rfl := Sum.inl.inj (Option.some.inj hf)
    refine ⟨rfl, ?_⟩
    intro p e R s m args below meth co Q base ext D cA L xs d cells slots H locs X hR hS ls st hL hst k
    obtain ⟨hx, hb, hml, hown, hts, hKs, hfr, hlo⟩ := X
    rw [heq] at hst
    obtain ⟨y, k1, rfl, hy, hst2⟩ := zRS_int hst
    obtain ⟨x, k2, rfl, hx2, hst3⟩ := zRS_int hst2
    clear hst hst2
    subst hy; subst hx2
    have kk := k ls k2 hL hst3
    dsimp only at kk
    refine lv_icmp_lt hx hb hd ht (fun g => ?_) (fun g => ?_)
    · rw [if_pos (show x.toInt < y.toInt from zi_lt.mp g)] at kk
      exact kk
    · rw [if_neg (fun (q : x.toInt < y.toInt) => g (zi_lt.mpr q))] at kk
      exact kk
  · cases hf
theorem zs_ifge {off : Int} {t : Nat} (hd : decode cc pc = .ok (.ifCond .ge off, 3)) (ht : (pc : Int) + off = (t : Int)) : zFl l own cc nL pc (zm_ifge (pc + 3) t) := by
  intro K c c' hpc hf
  unfold zm_ifge at hf
  split at hf
  · rename_i x0 st0 heq
    obtain rfl := Sum.inl.inj (Option.some.inj hf)
    refine ⟨rfl, ?_⟩
    intro p e R s m args below meth co Q base ext D cA L xs d cells slots H locs X hR hS ls st hL hst k
    obtain ⟨hx, hb, hml, hown, hts, hKs, hfr, hlo⟩ := X
    rw [heq] at hst
    obtain ⟨x, k2, rfl, hx2, hst3⟩ := zRS_int hst
    clear hst
    subst hx2
    have kk := k ls k2 hL hst3
    dsimp only at kk
    refine lv_if_ge hx hb hd ht (fun g => ?_) (fun g => ?_)
    · rw [if_neg (show ¬ x.toInt < 0 from Int.not_lt.mpr (zi_le.mp g))] at kk
      exact kk
    · rw [if_pos (show x.toInt < 0 from Int.not_le.mp (fun q => g (zi_le.mpr q)))] at kk
      exact kk
  · cases hf
theorem zs_icge {off : Int} {t : Nat} (hd : decode cc pc = .ok (.if_icmp .ge off, 3)) (ht : (pc : Int) + off = (t : Int)) : zFl l own cc nL pc (zm_icge (pc + 3) t) := by
  intro K c c' hpc hf
  unfold zm_icge at hf
  split at hf
  · rename_i y0 x0 st0 heq
    obtain rfl := Sum.inl.inj (Option.some.inj hf)
    refine ⟨rfl, ?_⟩
    intro p e R s m args below meth co Q base ext D cA L xs d cells slots H locs X hR hS ls st hL hst k
    obtain ⟨hx, hb, hml, hown, hts, hKs, hfr, hlo⟩ := X
    rw [heq] at hst
    obtain ⟨y, k1, rfl, hy, hst2⟩ := zRS_int hst
    obtain ⟨x, k2, rfl, hx2, hst3⟩ := zRS_int hst2
    clear hst hst2
    subst hy; subst hx2
    have kk := k ls k2 hL hst3
    dsimp only at kk
    refine lv_icmp_ge hx hb hd ht (fun g => ?_) (fun g => ?_)
    · rw [if_neg (show ¬ x.toInt < y.toInt from Int.not_lt.mpr (zi_le.mp g))] at kk
      exact kk
    · rw [if_pos (show x.toInt < y.toInt from Int.not_le.mp (fun q => g (zi_le.mpr q)))] at kk
      exact kk
  · cases hf
theorem zs_ifgt {off : Int} {t : Nat} (hd : decode cc pc = .ok (.ifCond .gt off, 3)) (ht : (pc : Int) + off = (t : Int)) : zFl l own cc nL pc (zm_ifgt (pc + 3) t) := by
  intro K c c' hpc hf
  unfold zm_ifgt at hf
  split at hf
  · rename_i x0 st0 heq
    obtain rfl := Sum.inl.inj (Option.some.inj hf)
    refine ⟨rfl, ?_⟩
    intro p e R s m args below meth co Q base ext D cA L xs d cells slots H locs X hR hS ls st hL hst k
    obtain ⟨hx, hb, hml, hown, hts, hKs, hfr, hlo⟩ := X
    rw [heq] at hst
    obtain ⟨x, k2, rfl, hx2, hst3⟩ := zRS_int hst
    clear hst
    subst hx2
    have kk := k ls k2 hL hst3
    dsimp only at kk
    refine lv_if_gt hx hb hd ht (fun g => ?_) (fun g => ?_)
    · rw [if_pos (show 0 < x.toInt from zi_lt.mp g)] at kk
      exact kk
    · rw [if_neg (fun (q : 0 < x.toInt) => g (zi_lt.mpr q))] at kk
      exact kk
  · cases hf
theorem zs_icgt {off : Int} {t : Nat} (hd : decode cc pc = .ok (.if_icmp .gt off, 3)) (ht : (pc : Int) + off = (t : Int)) : zFl l own cc nL pc (zm_icgt (pc + 3) t) := by
  intro K c c' hpc hf
  unfold zm_icgt at hf
  split at hf
  · rename_i y0 x0 st0 heq
    obtain rfl := Sum.inl.inj (Option.some.inj hf)
    refine ⟨rfl, ?_⟩
    intro p e R s m args below meth co Q base ext D cA L xs d cells slots H locs X hR hS ls st hL hst k
    obtain ⟨hx, hb, hml, hown, hts, hKs, hfr, hlo⟩ := X
    rw [heq] at hst
    obtain ⟨y, k1, rfl, hy, hst2⟩ := zRS_int hst
    obtain ⟨x, k2, rfl, hx2, hst3⟩ := zRS_int hst2
    clear hst hst2
    subst hy; subst hx2
    have kk := k ls k2 hL hst3
    dsimp only at kk
    refine lv_icmp_gt hx hb hd ht (fun g => ?_) (fun g => ?_)
    · rw [if_pos (show y.toInt < x.toInt from zi_lt.mp g)] at kk
      exact kk
    · rw [if_neg (fun (q : y.toInt < x.toInt) => g (zi_lt.mpr q))] at kk
      exact kk
  · cases hf
theorem zs_ifle {off : Int} {t : Nat} (hd : decode cc pc = .ok (.ifCond .le off, 3)) (ht : (pc : Int) + off = (t : Int)) : zFl l own cc nL pc (zm_ifle (pc + 3) t) := by
  intro K c c' hpc hf
  unfold zm_ifle at hf
  split at hf
  · rename_i x0 st0 heq
    obtain rfl := Sum.inl.inj (Option.some.inj hf)
    refine ⟨rfl, ?_⟩
    intro p e R s m args below meth co Q base ext D cA L xs d cells slots H locs X hR hS ls st hL hst k
    obtain ⟨hx, hb, hml, hown, hts, hKs, hfr, hlo⟩ := X
    rw [heq] at hst
    obtain ⟨x, k2, rfl, hx2, hst3⟩ := zRS_int hst
    clear hst
    subst hx2
    have kk := k ls k2 hL hst3
    dsimp only at kk
    refine lv_if_le hx hb hd ht (fun g => ?_) (fun g => ?_)
    · rw [if_neg (show ¬ 0 < x.toInt from Int.not_lt.mpr (zi_le.mp g))] at kk
      exact kk
    · rw [if_pos (show 0 < x.toInt from Int.not_le.mp (fun q => g (zi_le.mpr q)))] at kk
      exact kk
  · cases hf
theorem zs_icle {off : Int} {t : Nat} (hd : decode cc pc = .ok (.if_icmp .le off, 3)) (ht : (pc : Int) + off = (t : Int)) : zFl l own cc nL pc (zm_icle (pc + 3) t) := by
  intro K c c' hpc hf
  unfold zm_icle at hf
  split at hf
  · rename_i y0 x0 st0 heq
    obtain rfl := Sum.inl.inj (Option.some.inj hf)
    refine ⟨rfl, ?_⟩
    intro p e R s m args below meth co Q base ext D cA L xs d cells slots H locs X hR hS ls st hL hst k
    obtain ⟨hx, hb, hml, hown, hts, hKs, hfr, hlo⟩ := X
    rw [heq] at hst
    obtain ⟨y, k1, rfl, hy, hst2⟩ := zRS_int hst
    obtain ⟨x, k2, rfl, hx2, hst3⟩ := zRS_int hst2
    clear hst hst2
    subst hy; subst hx2
    have kk := k ls k2 hL hst3
    dsimp only at kk
    refine lv_icmp_le hx hb hd ht (fun g => ?_) (fun g => ?_)
    · rw [if_neg (show ¬ y.toInt < x.toInt from Int.not_lt.mpr (zi_le.mp g))] at kk
      exact kk
    · rw [if_pos (show y.toInt < x.toInt from Int.not_le.mp (fun q => g (zi_le.mpr q)))] at kk
      exact kk
  · cases hf
end ZS
