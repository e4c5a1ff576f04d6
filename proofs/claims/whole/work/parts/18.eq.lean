/-! equations of code over zmE -/
def zpure (K : zmK) (code : Nat → zmI) : Nat → Nat → (zmL × List zmV × zmW) → Option zmC
  | 0, pc, r => some (pc, r)
  | n + 1, pc, r => match code pc K (pc, r) with
    | some (.inl (pc', r')) => zpure K code n pc' r'
    | _ => none
theorem zmE_to {K : zmK} {code : Nat → zmI} {c c' : zmC} (h : code c.1 K c = some (.inl c')) : zmE K code c = zmE K code c' := by
  rw [zmE_step, h]
  rfl
theorem zmE_pures {K : zmK} {code : Nat → zmI} {pc : Nat} {r : zmL × List zmV × zmW} {c' : zmC} (k : Nat) (h : zpure K code k pc r = some c') : zmE K code (pc, r) = zmE K code c' := by
  induction k generalizing pc r with
  | zero =>
    cases h
    rfl
  | succ k ih =>
    unfold zpure at h
    split at h
    · rename_i pc1 r1 hc
      rw [zmE_to (c := (pc, r)) hc]
      exact ih h
    · cases h
section ZQ
variable {K : zmK} {code : Nat → zmI} {pc : Nat} {r : zmL × List zmV × zmW}
theorem zmE_ret {x : zmR} (h : code pc K (pc, r) = some (.inr x)) : zmE K code (pc, r) = some x := by
  rw [zmE_step]
  dsimp only
  rw [h]
  rfl
theorem zmE_none (h : code pc K (pc, r) = none) : zmE K code (pc, r) = none := by
  rw [zmE_step]
  dsimp only
  rw [h]
  rfl
theorem zmE_bind {α : Type} {x : Option α} {f : α → zmC} (h : code pc K (pc, r) = x.bind fun v => some (.inl (f v))) : zmE K code (pc, r) = x.bind fun v => zmE K code (f v) := by
  rw [zmE_step]
  dsimp only
  rw [h]
  cases x <;> rfl
theorem zmE_bindif {α : Type} {p : Prop} [Decidable p] {x : Option α} {f : α → zmC} (h : code pc K (pc, r) = if p then none else x.bind fun v => some (.inl (f v))) : zmE K code (pc, r) = if p then none else x.bind fun v => zmE K code (f v) := by
  rw [zmE_step]
  dsimp only
  rw [h]
  by_cases hp : p
  · rw [if_pos hp, if_pos hp]
    rfl
  · rw [if_neg hp, if_neg hp]
    cases x <;> rfl
theorem zmE_if {p : Prop} [Decidable p] {c1 c2 : zmC} {t e : Nat} {r' : zmL × List zmV × zmW} (h : code pc K (pc, r) = some (.inl (if p then t else e, r'))) (h1 : c1 = (t, r')) (h2 : c2 = (e, r')) : zmE K code (pc, r) = if p then zmE K code c1 else zmE K code c2 := by
  rw [zmE_step]
  dsimp only
  rw [h, h1, h2]
  by_cases hp : p
  · rw [if_pos hp, if_pos hp]
    rfl
  · rw [if_neg hp, if_neg hp]
    rfl
theorem zmE_div {c' : zmC} {p : Prop} [Decidable p] (h : code pc K (pc, r) = if p then none else some (.inl c')) : zmE K code (pc, r) = if p then none else zmE K code c' := by
  rw [zmE_step]
  dsimp only
  rw [h]
  by_cases hp : p
  · rw [if_pos hp, if_pos hp]
    rfl
  · rw [if_neg hp, if_neg hp]
    rfl
theorem zmE_rif {p : Prop} [Decidable p] {x : zmR} (h : code pc K (pc, r) = if p then some (.inr x) else none) : zmE K code (pc, r) = if p then some x else none := by
  rw [zmE_step]
  dsimp only
  rw [h]
  by_cases hp : p
  · rw [if_pos hp, if_pos hp]
    rfl
  · rw [if_neg hp, if_neg hp]
    rfl
end ZQ
theorem zbc {α β : Type} {x : Option α} {f g : α → Option β} (h : ∀ v, f v = g v) : x.bind f = x.bind g := by
  rw [funext h]
theorem zic {α : Type} {p : Prop} [Decidable p] {a b c d : α} (h : a = b) (h2 : c = d) : (if p then a else c) = if p then b else d := by
  rw [h, h2]
noncomputable def zlkE (K : zmK) (zc : Nat → zmI) (L : zmL) (st : List zmV) (w : zmW) (x : Int) (df : Nat) : List (Int × Nat) → Option zmR
  | [] => zmE K zc (df, L, st, w)
  | (k, t) :: ps => if x = k then zmE K zc (t, L, st, w) else zlkE K zc L st w x df ps
theorem zlkE_look {K : zmK} {zc : Nat → zmI} {L : zmL} {st : List zmV} {w : zmW} {x : Int} {df : Nat} : ∀ ps : List (Int × Nat), zmE K zc (zlook df ps x, L, st, w) = zlkE K zc L st w x df ps
  | [] => rfl
  | (k, t) :: ps => by
    unfold zlook zlkE
    by_cases h : x = k
    · rw [if_pos h, if_pos h]
    · rw [if_neg h, if_neg h]
      exact zlkE_look ps
theorem zmE_lsw {K : zmK} {zc : Nat → zmI} {pc : Nat} {L : zmL} {st : List zmV} {w : zmW} {x : Int} {df : Nat} {ps : List (Int × Nat)} (h : zc pc = zm_lsw df ps) : zmE K zc (pc, L, zi x :: st, w) = zlkE K zc L st w x df ps := by
  rw [zmE_step]
  dsimp only
  rw [h]
  exact zlkE_look ps
def zpairs : Int → List Nat → List (Int × Nat)
  | _, [] => []
  | k, t :: ts => (k, t) :: zpairs (k + 1) ts
theorem zpairs_out {df : Nat} {x : Int} : ∀ (ts : List Nat) (lo : Int), x < lo ∨ lo + ts.length ≤ x → zlook df (zpairs lo ts) x = df
  | [], lo, _ => rfl
  | t :: ts, lo, h => by
    unfold zpairs zlook
    rw [List.length_cons] at h
    rw [if_neg (by omega)]
    exact zpairs_out ts (lo + 1) (by omega)
theorem zpairs_in {df : Nat} {x : Int} : ∀ (ts : List Nat) (lo : Int), lo ≤ x → x < lo + ts.length → zlook df (zpairs lo ts) x = ts.getD (x - lo).toNat df
  | [], lo, h, h2 => by
    exfalso
    rw [List.length_nil] at h2
    omega
  | t :: ts, lo, h, h2 => by
    unfold zpairs zlook
    rw [List.length_cons] at h2
    by_cases hx : x = lo
    · rw [if_pos hx, hx, Int.sub_self]
      rfl
    · rw [if_neg hx, zpairs_in ts (lo + 1) (by omega) (by omega), show (x - lo).toNat = (x - (lo + 1)).toNat + 1 by omega]
      rfl
theorem zmE_tsw {K : zmK} {zc : Nat → zmI} {pc : Nat} {L : zmL} {st : List zmV} {w : zmW} {x : Int} {df : Nat} {lo hi : Int} {ts : List Nat} {ps : List (Int × Nat)} (h : zc pc = zm_tsw df lo hi ts) (hl : (ts.length : Int) = hi - lo + 1) (hp : zpairs lo ts = ps) : zmE K zc (pc, L, zi x :: st, w) = zlkE K zc L st w x df ps := by
  rw [zmE_step]
  dsimp only
  rw [h, ← hp, ← zlkE_look]
  show zmE K zc (if x < lo ∨ hi < x then df else ts.getD (x - lo).toNat df, L, st, w) = _
  by_cases g : x < lo ∨ hi < x
  · rw [if_pos g, zpairs_out ts lo (by omega)]
  · rw [if_neg g, zpairs_in ts lo (by omega) (by omega)]
def zcv (K : zmK) (y ci a : Nat) (A : List zmV) (w : zmW) : Option zmR := if (w.2.2.1 a).1 = ci then K y A w else none
theorem zmG_bind {K : zmK} {zc : Nat → zmI} {α : Type} {x : Option α} {f : α → Option (zmC ⊕ zmR)} : zmG K zc (x.bind f) = x.bind fun v => zmG K zc (f v) := by
  cases x <;> rfl
theorem zmE_callS {K : zmK} {zc : Nat → zmI} {pc nx y n : Nat} {v : Bool} {L : zmL} {st0 st A : List zmV} {w : zmW} (h : zc pc = zm_call nx y n v 99) (hA : (st0.take n).reverse = A) (hs : st0.drop n = st) (hl : n ≤ st0.length) (h8 : (st.map zcat).sum ≤ 8) : zmE K zc (pc, L, st0, w) = (K y A w).bind fun r => zmG K zc (zafter nx L st v r) := by
  rw [zmE_step]
  dsimp only
  rw [h]
  unfold zm_call
  dsimp only
  rw [if_pos ⟨hl, by rw [hs]; exact h8, rfl⟩, hA, hs, zmG_bind]
  refine zbc fun r => ?_
  obtain ⟨u, w'⟩ := r
  cases u <;> cases v <;> rfl
theorem zmE_callV {K : zmK} {zc : Nat → zmI} {pc nx y n ci a : Nat} {v : Bool} {L : zmL} {st0 st A0 : List zmV} {w : zmW} (h : zc pc = zm_call nx y n v ci) (hci : (ci == 99) = false) (hA : (st0.take n).reverse = zr a :: A0) (hs : st0.drop n = st) (hl : n ≤ st0.length) (h8 : (st.map zcat).sum ≤ 8) : zmE K zc (pc, L, st0, w) = (zcv K y ci a (zr a :: A0) w).bind fun r => zmG K zc (zafter nx L st v r) := by
  rw [zmE_step]
  dsimp only
  rw [h]
  unfold zm_call zcv
  dsimp only
  rw [hA, hs, hci]
  by_cases g : (w.2.2.1 a).1 = ci
  · rw [if_pos ⟨hl, h8, by show ((w.2.2.1 a).1 == ci) = true; exact beq_iff_eq.mpr g⟩, if_pos g, zmG_bind]
    refine zbc fun r => ?_
    obtain ⟨u, w'⟩ := r
    cases u <;> cases v <;> rfl
  · rw [if_neg (fun q => g (beq_iff_eq.mp (show ((w.2.2.1 a).1 == ci) = true from q.2.2))), if_neg g]
    rfl
