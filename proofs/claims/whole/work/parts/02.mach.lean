/-! THE SMALL MACHINE: values are whole numbers and places of cells; a world is a store of numbers by cell and index. -/
abbrev zmV : Type := Int ⊕ (Int ⊕ Nat)
abbrev zmL : Type := List (Option zmV)
/-- how many cells, how many slots, kind and length of each cell, references by cell and index, numbers by cell and index -/
abbrev zmW : Type := Nat × Nat × (Nat → Nat × Nat) × (Nat → Int → Option Nat) × (Nat → Int → Int)
abbrev zmC : Type := Nat × zmL × List zmV × zmW
abbrev zmR : Type := Option zmV × zmW
abbrev zmK : Type := Nat → List zmV → zmW → Option zmR
abbrev zmI : Type := zmK → zmC → Option (zmC ⊕ zmR)
abbrev zi (z : Int) : zmV := .inl z
abbrev zl (z : Int) : zmV := .inr (.inl z)
abbrev zr (a : Nat) : zmV := .inr (.inr a)
def zXB : Nat := 1000
def w32 (z : Int) : Int := Int.bmod z 4294967296
def w64 (z : Int) : Int := Int.bmod z 18446744073709551616
def zm_run (K : zmK) (code : Nat → zmI) : Nat → zmC → Option zmR
  | 0, _ => none
  | n + 1, c => match code c.1 K c with
    | none => none
    | some (.inl c') => zm_run K code n c'
    | some (.inr r) => some r
theorem zm_run_mono {K : zmK} {code : Nat → zmI} {r : zmR} : ∀ (n k : Nat) (c : zmC), zm_run K code n c = some r → zm_run K code (n + k) c = some r := by
  intro n
  induction n with
  | zero => intro k c h; cases h
  | succ n ih =>
    intro k c h
    rw [Nat.succ_add]
    unfold zm_run at h ⊢
    split at h
    · cases h
    · exact ih k _ h
    · exact h
noncomputable def zmE (K : zmK) (code : Nat → zmI) (c : zmC) : Option zmR := @dite (Option zmR) (∃ r, ∃ n, zm_run K code n c = some r) (Classical.propDecidable _) (fun h => some (Classical.choose h)) (fun _ => none)
theorem zmE_of {K : zmK} {code : Nat → zmI} {c : zmC} {r : zmR} {n : Nat} (h : zm_run K code n c = some r) : zmE K code c = some r := by
  have hx : ∃ r, ∃ n, zm_run K code n c = some r := ⟨r, n, h⟩
  unfold zmE
  rw [dif_pos hx]
  obtain ⟨k, hk⟩ := Classical.choose_spec hx
  have h1 := zm_run_mono n k c h
  have h2 := zm_run_mono k n c hk
  rw [Nat.add_comm] at h2
  rw [h1] at h2
  rw [← Option.some.inj h2]
theorem zmE_run {K : zmK} {code : Nat → zmI} {c : zmC} {r : zmR} (h : zmE K code c = some r) : ∃ n, zm_run K code n c = some r := by
  unfold zmE at h
  by_cases hx : ∃ r, ∃ n, zm_run K code n c = some r
  · rw [dif_pos hx] at h
    obtain ⟨k, hk⟩ := Classical.choose_spec hx
    exact ⟨k, by rw [hk]; exact h⟩
  · rw [dif_neg hx] at h
    cases h
/-- what becomes of an instruction's outcome -/
noncomputable def zmG (K : zmK) (code : Nat → zmI) (x : Option (zmC ⊕ zmR)) : Option zmR := match x with
  | none => none
  | some (.inl c') => zmE K code c'
  | some (.inr r) => some r
theorem zmE_step (K : zmK) (code : Nat → zmI) (c : zmC) : zmE K code c = zmG K code (code c.1 K c) := by
  have key : ∀ r, zmE K code c = some r ↔ zmG K code (code c.1 K c) = some r := by
    intro r
    constructor
    · intro h
      obtain ⟨n, hn⟩ := zmE_run h
      cases n with
      | zero => cases hn
      | succ n =>
        unfold zm_run at hn
        unfold zmG
        split at hn
        · cases hn
        · rename_i c' hc
          try rw [hc]
          exact zmE_of hn
        · rename_i r' hc
          try rw [hc]
          exact hn
    · intro h
      unfold zmG at h
      split at h
      · cases h
      · rename_i c' hc
        obtain ⟨n, hn⟩ := zmE_run h
        refine zmE_of (n := n + 1) ?_
        unfold zm_run
        rw [hc]
        exact hn
      · rename_i r' hc
        refine zmE_of (n := 1) ?_
        unfold zm_run
        rw [hc]
        exact h
  cases h : zmE K code c with
  | some r => exact ((key r).mp h).symm
  | none =>
    cases h2 : zmG K code (code c.1 K c) with
    | none => rfl
    | some r =>
      rw [(key r).mpr h2] at h
      cases h
/-! worlds -/
def zGI (w : zmW) (a ci : Nat) (k : Int) : Option Int := if (w.2.2.1 a).1 = ci then some (w.2.2.2.2 a k) else none
def zGR (w : zmW) (a ci : Nat) (k : Int) : Option Nat := if (w.2.2.1 a).1 = ci then w.2.2.2.1 a k else none
def zup {α : Type} (m : Nat → Int → α) (a : Nat) (k : Int) (z : α) : Nat → Int → α := fun b j => if b = a ∧ j = k then z else m b j
def zsetM (w : zmW) (a : Nat) (k z : Int) : zmW := (w.1, w.2.1, w.2.2.1, w.2.2.2.1, zup w.2.2.2.2 a k z)
def zsetR (w : zmW) (a : Nat) (k : Int) (r : Nat) : zmW := (w.1, w.2.1, w.2.2.1, zup w.2.2.2.1 a k (some r), w.2.2.2.2)
def zPI (w : zmW) (a ci : Nat) (k z : Int) : Option zmW := if (w.2.2.1 a).1 = ci ∧ a < w.1 then some (zsetM w a k z) else none
def zPZ (w : zmW) (a ci : Nat) (k z : Int) : Option zmW := if ((w.2.2.1 a).1 = ci ∧ a < w.1) ∧ (z = 0 ∨ z = 1) then some (zsetM w a k z) else none
def zPR (w : zmW) (a ci : Nat) (k : Int) (r : Nat) : Option zmW := if ((w.2.2.1 a).1 = ci ∧ a < w.1) ∧ r < w.1 then some (zsetR w a k r) else none
/-- array reads: of a kind of numbers, of references -/
def zAI (w : zmW) (t a : Nat) (i : Int) : Option Int := if (w.2.2.1 a).1 = t ∧ 0 ≤ i ∧ i < ((w.2.2.1 a).2 : Int) then some (w.2.2.2.2 a i) else none
def zAR (w : zmW) (t a : Nat) (i : Int) : Option Nat := if (w.2.2.1 a).1 = t ∧ 0 ≤ i ∧ i < ((w.2.2.1 a).2 : Int) then w.2.2.2.1 a i else none
def zSI (w : zmW) (t a : Nat) (i z : Int) : Option zmW := if (w.2.2.1 a).1 = t ∧ 0 ≤ i ∧ i < ((w.2.2.1 a).2 : Int) ∧ a < w.1 then some (zsetM w a i z) else none
def zSZ (w : zmW) (t a : Nat) (i z : Int) : Option zmW := if (z = 0 ∨ z = 1) ∧ (w.2.2.1 a).1 = t ∧ 0 ≤ i ∧ i < ((w.2.2.1 a).2 : Int) ∧ a < w.1 then some (zsetM w a i z) else none
def zSR (w : zmW) (t ci a : Nat) (i : Int) (r : Nat) : Option zmW := if (w.2.2.1 a).1 = t ∧ 0 ≤ i ∧ i < ((w.2.2.1 a).2 : Int) ∧ a < w.1 ∧ r < w.1 ∧ (w.2.2.1 r).1 = ci then some (zsetR w a i r) else none
def zLen (w : zmW) (a : Nat) : Option Int := if 100 ≤ (w.2.2.1 a).1 ∧ (w.2.2.1 a).2 ≤ 100000 then some ((w.2.2.1 a).2 : Int) else none
def zupS (f : Nat → Nat × Nat) (a : Nat) (x : Nat × Nat) : Nat → Nat × Nat := fun b => if b = a then x else f b
/-- a new cell of a kind and length, of some slots -/
def zNew (w : zmW) (t n sl : Nat) : Option zmW := if w.1 + 1 < zXB ∧ n ≤ 100000 then some (w.1 + 1, w.2.1 + sl, zupS w.2.2.1 w.1 (t, n), w.2.2.2) else none
/-- System.arraycopy of numbers -/
def zcpy (f g : Int → Int) (sp dp n : Int) : Int → Int := fun k => if dp ≤ k ∧ k < dp + n then f (sp + (k - dp)) else g k
def zCopy (w : zmW) (a0 : Nat) (sp : Int) (a : Nat) (dp n : Int) : Option zmW :=
  if (w.2.2.1 a0).1 = 100 ∧ (w.2.2.1 a).1 = 100 ∧ a0 < w.1 ∧ a < w.1 ∧ 0 ≤ sp ∧ 0 ≤ dp ∧ 0 ≤ n ∧ sp + n ≤ ((w.2.2.1 a0).2 : Int) ∧ dp + n ≤ ((w.2.2.1 a).2 : Int) then some (w.1, w.2.1, w.2.2.1, w.2.2.2.1, fun b j => if b = a then zcpy (w.2.2.2.2 a0) (w.2.2.2.2 a) sp dp n j else w.2.2.2.2 b j) else none
/-! locals -/
def zKill (i : Nat) (L : zmL) : zmL := match i with
  | 0 => L
  | j + 1 => match L[j]? with
    | some (some (.inr (.inl _))) => L.set j none
    | _ => L
def zSet1 (i : Nat) (v : zmV) (L : zmL) : Option zmL := if i < L.length then some ((zKill i L).set i (some v)) else none
def zSet2 (i : Nat) (v : zmV) (L : zmL) : Option zmL := if i + 1 < L.length then some (((zKill i L).set i (some v)).set (i + 1) none) else none
def zcat (v : zmV) : Nat := match v with
  | .inr (.inl _) => 2
  | _ => 1
/-! numbers -/
def z_and (x y : Int) : Int := (Int32.ofInt x &&& Int32.ofInt y).toInt
def z_or (x y : Int) : Int := (Int32.ofInt x ||| Int32.ofInt y).toInt
def z_shl (x y : Int) : Int := (Int32.ofInt x <<< (Int32.ofInt y &&& 31)).toInt
def z_shr (x y : Int) : Int := (Int32.ofInt x >>> (Int32.ofInt y &&& 31)).toInt
def z_ushr (x y : Int) : Int := ((Int32.ofInt x).toUInt32 >>> ((Int32.ofInt y).toUInt32 &&& Int32.toUInt32 31)).toInt32.toInt
def z_div (x y : Int) : Int := w32 (Int.tdiv x y)
def z_rem (x y : Int) : Int := w32 (x - w32 (w32 (Int.tdiv x y) * y))
def z_andl (x y : Int) : Int := (Int64.ofInt x &&& Int64.ofInt y).toInt
def z_orl (x y : Int) : Int := (Int64.ofInt x ||| Int64.ofInt y).toInt
def z_shll (x y : Int) : Int := (Int64.ofInt x <<< ((Int32.ofInt y).toInt64 &&& 63)).toInt
def z_ushrl (x y : Int) : Int := ((Int64.ofInt x).toUInt64 >>> ((Int32.ofInt y).toInt64.toUInt64 &&& Int64.toUInt64 63)).toInt64.toInt
def z_divl (x y : Int) : Int := w64 (Int.tdiv x y)
def z_reml (x y : Int) : Int := w64 (x - w64 (w64 (Int.tdiv x y) * y))
def z_i2b (x : Int) : Int := (Int32.ofInt x).toInt8.toInt32.toInt
def z_i2s (x : Int) : Int := (Int32.ofInt x).toInt16.toInt32.toInt
def z_i2c (x : Int) : Int := ((Int32.ofInt x).toUInt32 % 65536).toInt32.toInt
def z_l2i (x : Int) : Int := (Int64.ofInt x).toInt32.toInt
/-! instructions: the next place comes first -/
def zm_no : zmI := fun _ _ => none
def zm_push (nx : Nat) (z : Int) : zmI := fun _ c => some (.inl (nx, c.2.1, .inl z :: c.2.2.1, c.2.2.2))
def zm_pushl (nx : Nat) (z : Int) : zmI := fun _ c => some (.inl (nx, c.2.1, .inr (.inl z) :: c.2.2.1, c.2.2.2))
def zm_pushr (nx a : Nat) : zmI := fun _ c => some (.inl (nx, c.2.1, .inr (.inr a) :: c.2.2.1, c.2.2.2))
def zm_iload (nx i : Nat) : zmI := fun _ c => match c.2.1[i]? with
  | some (some (.inl z)) => some (.inl (nx, c.2.1, .inl z :: c.2.2.1, c.2.2.2))
  | _ => none
def zm_lload (nx i : Nat) : zmI := fun _ c => match c.2.1[i]? with
  | some (some (.inr (.inl z))) => some (.inl (nx, c.2.1, .inr (.inl z) :: c.2.2.1, c.2.2.2))
  | _ => none
def zm_aload (nx i : Nat) : zmI := fun _ c => match c.2.1[i]? with
  | some (some (.inr (.inr a))) => some (.inl (nx, c.2.1, .inr (.inr a) :: c.2.2.1, c.2.2.2))
  | _ => none
def zm_istore (nx i : Nat) : zmI := fun _ c => match c.2.2.1 with
  | .inl z :: st => (zSet1 i (.inl z) c.2.1).bind fun L => some (.inl (nx, L, st, c.2.2.2))
  | _ => none
def zm_lstore (nx i : Nat) : zmI := fun _ c => match c.2.2.1 with
  | .inr (.inl z) :: st => (zSet2 i (.inr (.inl z)) c.2.1).bind fun L => some (.inl (nx, L, st, c.2.2.2))
  | _ => none
def zm_astore (nx i : Nat) : zmI := fun _ c => match c.2.2.1 with
  | .inr (.inr a) :: st => (zSet1 i (.inr (.inr a)) c.2.1).bind fun L => some (.inl (nx, L, st, c.2.2.2))
  | _ => none
def zm_iinc (nx i : Nat) (k : Int) : zmI := fun _ c => match c.2.1[i]? with
  | some (some (.inl z)) => (zSet1 i (.inl (w32 (z + k))) c.2.1).bind fun L => some (.inl (nx, L, c.2.2.1, c.2.2.2))
  | _ => none
def zm_dup (nx : Nat) : zmI := fun _ c => match c.2.2.1 with
  | v :: st => if zcat v = 1 then some (.inl (nx, c.2.1, v :: v :: st, c.2.2.2)) else none
  | _ => none
def zm_pop (nx : Nat) : zmI := fun _ c => match c.2.2.1 with
  | v :: st => if zcat v = 1 then some (.inl (nx, c.2.1, st, c.2.2.2)) else none
  | _ => none
def zm_dup2 (nx : Nat) : zmI := fun _ c => match c.2.2.1 with
  | v :: u :: st => if zcat v = 1 ∧ zcat u = 1 then some (.inl (nx, c.2.1, v :: u :: v :: u :: st, c.2.2.2)) else none
  | _ => none
def zm_bin (nx : Nat) (f : Int → Int → Int) : zmI := fun _ c => match c.2.2.1 with
  | .inl y :: .inl x :: st => some (.inl (nx, c.2.1, .inl (f x y) :: st, c.2.2.2))
  | _ => none
def zm_binl (nx : Nat) (f : Int → Int → Int) : zmI := fun _ c => match c.2.2.1 with
  | .inr (.inl y) :: .inr (.inl x) :: st => some (.inl (nx, c.2.1, .inr (.inl (f x y)) :: st, c.2.2.2))
  | _ => none
/-- divisions -/
def zm_quo (nx : Nat) (f : Int → Int → Int) : zmI := fun _ c => match c.2.2.1 with
  | .inl y :: .inl x :: st => if y = 0 then none else some (.inl (nx, c.2.1, .inl (f x y) :: st, c.2.2.2))
  | _ => none
def zm_quol (nx : Nat) (f : Int → Int → Int) : zmI := fun _ c => match c.2.2.1 with
  | .inr (.inl y) :: .inr (.inl x) :: st => if y = 0 then none else some (.inl (nx, c.2.1, .inr (.inl (f x y)) :: st, c.2.2.2))
  | _ => none
/-- shifts of longs -/
def zm_shl (nx : Nat) (f : Int → Int → Int) : zmI := fun _ c => match c.2.2.1 with
  | .inl y :: .inr (.inl x) :: st => some (.inl (nx, c.2.1, .inr (.inl (f x y)) :: st, c.2.2.2))
  | _ => none
def zm_un (nx : Nat) (f : Int → Int) : zmI := fun _ c => match c.2.2.1 with
  | .inl x :: st => some (.inl (nx, c.2.1, .inl (f x) :: st, c.2.2.2))
  | _ => none
def zm_unl (nx : Nat) (f : Int → Int) : zmI := fun _ c => match c.2.2.1 with
  | .inr (.inl x) :: st => some (.inl (nx, c.2.1, .inr (.inl (f x)) :: st, c.2.2.2))
  | _ => none
def zm_i2l (nx : Nat) : zmI := fun _ c => match c.2.2.1 with
  | .inl x :: st => some (.inl (nx, c.2.1, .inr (.inl x) :: st, c.2.2.2))
  | _ => none
def zm_l2i (nx : Nat) : zmI := fun _ c => match c.2.2.1 with
  | .inr (.inl x) :: st => some (.inl (nx, c.2.1, .inl (z_l2i x) :: st, c.2.2.2))
  | _ => none
def zm_lcmp (nx : Nat) : zmI := fun _ c => match c.2.2.1 with
  | .inr (.inl y) :: .inr (.inl x) :: st => some (.inl (nx, c.2.1, .inl (if y < x then 1 else if x = y then 0 else -1) :: st, c.2.2.2))
  | _ => none
def zm_goto (t : Nat) : zmI := fun _ c => some (.inl (t, c.2))
def zm_ifeq (nx t : Nat) : zmI := fun _ c => match c.2.2.1 with
  | .inl x :: st => some (.inl (if x = 0 then t else nx, c.2.1, st, c.2.2.2))
  | _ => none
def zm_ifne (nx t : Nat) : zmI := fun _ c => match c.2.2.1 with
  | .inl x :: st => some (.inl (if x = 0 then nx else t, c.2.1, st, c.2.2.2))
  | _ => none
def zm_iflt (nx t : Nat) : zmI := fun _ c => match c.2.2.1 with
  | .inl x :: st => some (.inl (if x < 0 then t else nx, c.2.1, st, c.2.2.2))
  | _ => none
def zm_ifge (nx t : Nat) : zmI := fun _ c => match c.2.2.1 with
  | .inl x :: st => some (.inl (if x < 0 then nx else t, c.2.1, st, c.2.2.2))
  | _ => none
def zm_ifgt (nx t : Nat) : zmI := fun _ c => match c.2.2.1 with
  | .inl x :: st => some (.inl (if 0 < x then t else nx, c.2.1, st, c.2.2.2))
  | _ => none
def zm_ifle (nx t : Nat) : zmI := fun _ c => match c.2.2.1 with
  | .inl x :: st => some (.inl (if 0 < x then nx else t, c.2.1, st, c.2.2.2))
  | _ => none
def zm_iceq (nx t : Nat) : zmI := fun _ c => match c.2.2.1 with
  | .inl y :: .inl x :: st => some (.inl (if x = y then t else nx, c.2.1, st, c.2.2.2))
  | _ => none
def zm_icne (nx t : Nat) : zmI := fun _ c => match c.2.2.1 with
  | .inl y :: .inl x :: st => some (.inl (if x = y then nx else t, c.2.1, st, c.2.2.2))
  | _ => none
def zm_iclt (nx t : Nat) : zmI := fun _ c => match c.2.2.1 with
  | .inl y :: .inl x :: st => some (.inl (if x < y then t else nx, c.2.1, st, c.2.2.2))
  | _ => none
def zm_icge (nx t : Nat) : zmI := fun _ c => match c.2.2.1 with
  | .inl y :: .inl x :: st => some (.inl (if x < y then nx else t, c.2.1, st, c.2.2.2))
  | _ => none
def zm_icgt (nx t : Nat) : zmI := fun _ c => match c.2.2.1 with
  | .inl y :: .inl x :: st => some (.inl (if y < x then t else nx, c.2.1, st, c.2.2.2))
  | _ => none
def zm_icle (nx t : Nat) : zmI := fun _ c => match c.2.2.1 with
  | .inl y :: .inl x :: st => some (.inl (if y < x then nx else t, c.2.1, st, c.2.2.2))
  | _ => none
def zm_tsw (df : Nat) (lo hi : Int) (ts : List Nat) : zmI := fun _ c => match c.2.2.1 with
  | .inl x :: st => some (.inl (if x < lo ∨ hi < x then df else ts.getD (x - lo).toNat df, c.2.1, st, c.2.2.2))
  | _ => none
def zlook (df : Nat) : List (Int × Nat) → Int → Nat
  | [], _ => df
  | (k, t) :: l, x => if x = k then t else zlook df l x
def zm_lsw (df : Nat) (ps : List (Int × Nat)) : zmI := fun _ c => match c.2.2.1 with
  | .inl x :: st => some (.inl (zlook df ps x, c.2.1, st, c.2.2.2))
  | _ => none
def zm_getI (nx ci : Nat) (k : Int) : zmI := fun _ c => match c.2.2.1 with
  | .inr (.inr a) :: st => (zGI c.2.2.2 a ci k).bind fun z => some (.inl (nx, c.2.1, .inl z :: st, c.2.2.2))
  | _ => none
def zm_getR (nx ci : Nat) (k : Int) : zmI := fun _ c => match c.2.2.1 with
  | .inr (.inr a) :: st => (zGR c.2.2.2 a ci k).bind fun r => some (.inl (nx, c.2.1, .inr (.inr r) :: st, c.2.2.2))
  | _ => none
def zm_putI (nx ci : Nat) (k : Int) : zmI := fun _ c => match c.2.2.1 with
  | .inl z :: .inr (.inr a) :: st => (zPI c.2.2.2 a ci k z).bind fun w => some (.inl (nx, c.2.1, st, w))
  | _ => none
def zm_putZ (nx ci : Nat) (k : Int) : zmI := fun _ c => match c.2.2.1 with
  | .inl z :: .inr (.inr a) :: st => (zPZ c.2.2.2 a ci k z).bind fun w => some (.inl (nx, c.2.1, st, w))
  | _ => none
def zm_putR (nx ci : Nat) (k : Int) : zmI := fun _ c => match c.2.2.1 with
  | .inr (.inr r) :: .inr (.inr a) :: st => (zPR c.2.2.2 a ci k r).bind fun w => some (.inl (nx, c.2.1, st, w))
  | _ => none
def zm_ald (nx t : Nat) : zmI := fun _ c => match c.2.2.1 with
  | .inl i :: .inr (.inr a) :: st => (zAI c.2.2.2 t a i).bind fun z => some (.inl (nx, c.2.1, .inl z :: st, c.2.2.2))
  | _ => none
def zm_lald (nx : Nat) : zmI := fun _ c => match c.2.2.1 with
  | .inl i :: .inr (.inr a) :: st => (zAI c.2.2.2 101 a i).bind fun z => some (.inl (nx, c.2.1, .inr (.inl z) :: st, c.2.2.2))
  | _ => none
def zm_aald (nx t : Nat) : zmI := fun _ c => match c.2.2.1 with
  | .inl i :: .inr (.inr a) :: st => (zAR c.2.2.2 t a i).bind fun r => some (.inl (nx, c.2.1, .inr (.inr r) :: st, c.2.2.2))
  | _ => none
def zm_iast (nx : Nat) : zmI := fun _ c => match c.2.2.1 with
  | .inl z :: .inl i :: .inr (.inr a) :: st => (zSI c.2.2.2 100 a i z).bind fun w => some (.inl (nx, c.2.1, st, w))
  | _ => none
def zm_zast (nx : Nat) : zmI := fun _ c => match c.2.2.1 with
  | .inl z :: .inl i :: .inr (.inr a) :: st => (zSZ c.2.2.2 102 a i z).bind fun w => some (.inl (nx, c.2.1, st, w))
  | _ => none
def zm_last (nx : Nat) : zmI := fun _ c => match c.2.2.1 with
  | .inr (.inl z) :: .inl i :: .inr (.inr a) :: st => (zSI c.2.2.2 101 a i z).bind fun w => some (.inl (nx, c.2.1, st, w))
  | _ => none
def zm_aast (nx t ci : Nat) : zmI := fun _ c => match c.2.2.1 with
  | .inr (.inr r) :: .inl i :: .inr (.inr a) :: st => (zSR c.2.2.2 t ci a i r).bind fun w => some (.inl (nx, c.2.1, st, w))
  | _ => none
def zm_alen (nx : Nat) : zmI := fun _ c => match c.2.2.1 with
  | .inr (.inr a) :: st => (zLen c.2.2.2 a).bind fun z => some (.inl (nx, c.2.1, .inl z :: st, c.2.2.2))
  | _ => none
def zm_newa (nx t : Nat) : zmI := fun _ c => match c.2.2.1 with
  | .inl z :: st => if z < 0 then none else (zNew c.2.2.2 t z.toNat z.toNat).bind fun w => some (.inl (nx, c.2.1, .inr (.inr c.2.2.2.1) :: st, w))
  | _ => none
def zm_new (nx ci N : Nat) : zmI := fun _ c => (zNew c.2.2.2 ci 0 N).bind fun w => some (.inl (nx, c.2.1, .inr (.inr c.2.2.2.1) :: c.2.2.1, w))
/-- Object.<init> -/
def zm_obj (nx : Nat) : zmI := fun _ c => match c.2.2.1 with
  | .inr (.inr _) :: st => if (st.map zcat).sum ≤ 8 then some (.inl (nx, c.2.1, st, c.2.2.2)) else none
  | _ => none
def zm_copy (nx : Nat) : zmI := fun _ c => match c.2.2.1 with
  | .inl n :: .inl dp :: .inr (.inr a) :: .inl sp :: .inr (.inr a0) :: st => if (st.map zcat).sum ≤ 8 then (zCopy c.2.2.2 a0 sp a dp n).bind fun w => some (.inl (nx, c.2.1, st, w)) else none
  | _ => none
def zrecv (w : zmW) (ci : Nat) : List zmV → Bool
  | .inr (.inr a) :: _ => (w.2.2.1 a).1 == ci
  | _ => false
/-- a call of method y with k arguments (the receiver among them); v: whether it answers; on a receiver of a kind ci (60: a text; 99: none asked) -/
def zm_call (nx y k : Nat) (v : Bool) (ci : Nat) : zmI := fun K c =>
  if k ≤ c.2.2.1.length ∧ ((c.2.2.1.drop k).map zcat).sum ≤ 8 ∧ (ci == 99 || zrecv c.2.2.2 ci (c.2.2.1.take k).reverse) = true then (K y (c.2.2.1.take k).reverse c.2.2.2).bind fun r => match r.1, v with
    | some u, true => some (.inl (nx, c.2.1, u :: c.2.2.1.drop k, r.2))
    | none, false => some (.inl (nx, c.2.1, c.2.2.1.drop k, r.2))
    | _, _ => none
  else none
def zm_iret : zmI := fun _ c => match c.2.2.1 with
  | [.inl z] => some (.inr (some (.inl z), c.2.2.2))
  | _ => none
/-- of a method that answers a boolean -/
def zm_zret : zmI := fun _ c => match c.2.2.1 with
  | [.inl z] => if z = 0 ∨ z = 1 then some (.inr (some (.inl z), c.2.2.2)) else none
  | _ => none
/-- of a method that answers a char -/
def zm_cret : zmI := fun _ c => match c.2.2.1 with
  | [.inl z] => if 0 ≤ z ∧ z < 65536 then some (.inr (some (.inl z), c.2.2.2)) else none
  | _ => none
/-- of a method that answers a byte: 0 alone -/
def zm_bret : zmI := fun _ c => match c.2.2.1 with
  | [.inl z] => if z = 0 then some (.inr (some (.inl z), c.2.2.2)) else none
  | _ => none
/-- String.checkIndex, whole: it answers where the index is within -/
def zm_chk : zmI := fun _ c => match c.2.1 with
  | [some (.inl i), some (.inl n)] => if 0 ≤ i ∧ i < n then some (.inr (none, c.2.2.2)) else none
  | _ => none
def zm_lret : zmI := fun _ c => match c.2.2.1 with
  | [.inr (.inl z)] => some (.inr (some (.inr (.inl z)), c.2.2.2))
  | _ => none
def zm_vret : zmI := fun _ c => match c.2.2.1 with
  | [] => some (.inr (none, c.2.2.2))
  | _ => none
/-! methods by number: code and how many locals -/
def zslots (v : zmV) : zmL := match v with
  | .inr (.inl z) => [some (.inr (.inl z)), none]
  | v => [some v]
def zinit (args : List zmV) (n : Nat) : zmL := args.flatMap zslots ++ List.replicate (n - (args.flatMap zslots).length) none
noncomputable def zmD (P : Nat → (Nat → zmI) × Nat) : Nat → zmK
  | 0 => fun _ _ _ => none
  | d + 1 => fun y args w => if ((args.flatMap zslots).length) ≤ (P y).2 then zmE (zmD P d) (P y).1 (0, zinit args (P y).2, [], w) else none
