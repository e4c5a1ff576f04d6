/-! worlds after the making: only numbers change -/
def zSH (L : Nat) : Nat → Nat × Nat := zshL zqS_98 (fun a => if a < zXB then (99, 0) else zxs L a)
def zMR : Nat → Int → Option Nat := zlkR zqR_100 (fun a i => if a < zXB then none else zxr a i)
def zM0 (xs : Nat → Int32) : Nat → Int → Int := zlkI zqI_175 (fun a i => if a < zXB then 0 else zxm xs a i)
def zW (L : Nat) (m : Nat → Int → Int) : zmW := (118, 31163, zSH L, zMR, m)
theorem zPW_zW (L : Nat) (xs : Nat → Int32) : zPW L xs 118 31163 zqS_98 zqR_100 zqI_175 = zW L (zM0 xs) := rfl
theorem zmG_v {K : zmK} {zc : Nat → zmI} {nx : Nat} {L : zmL} {st : List zmV} {v : zmV} {w : zmW} : zmG K zc (zafter nx L st true (some v, w)) = zmE K zc (nx, L, v :: st, w) := rfl
theorem zmG_n {K : zmK} {zc : Nat → zmI} {nx : Nat} {L : zmL} {st : List zmV} {w : zmW} : zmG K zc (zafter nx L st false (none, w)) = zmE K zc (nx, L, st, w) := rfl
section ZW
variable {L : Nat} {m : Nat → Int → Int} {a ci : Nat} {k : Int}
theorem zw_gi (h : (zSH L a).1 = ci) : zGI (zW L m) a ci k = some (m a k) := if_pos h
theorem zw_gr (h : (zSH L a).1 = ci) : zGR (zW L m) a ci k = zMR a k := if_pos h
theorem zw_pi {z : Int} (h : (zSH L a).1 = ci) (h2 : a < 118) : zPI (zW L m) a ci k z = some (zW L (zup m a k z)) := if_pos ⟨h, h2⟩
theorem zw_pz {z : Int} (h : (zSH L a).1 = ci) (h2 : a < 118) (h3 : z = 0 ∨ z = 1) : zPZ (zW L m) a ci k z = some (zW L (zup m a k z)) := if_pos ⟨⟨h, h2⟩, h3⟩
theorem zw_ai (h : (zSH L a).1 = ci) (h2 : 0 ≤ k) (h3 : k < ((zSH L a).2 : Int)) : zAI (zW L m) ci a k = some (m a k) := if_pos ⟨h, h2, h3⟩
theorem zw_ar (h : (zSH L a).1 = ci) (h2 : 0 ≤ k) (h3 : k < ((zSH L a).2 : Int)) : zAR (zW L m) ci a k = zMR a k := if_pos ⟨h, h2, h3⟩
theorem zw_si {z : Int} (h : (zSH L a).1 = ci) (h2 : 0 ≤ k) (h3 : k < ((zSH L a).2 : Int)) (h4 : a < 118) : zSI (zW L m) ci a k z = some (zW L (zup m a k z)) := if_pos ⟨h, h2, h3, h4⟩
theorem zw_sz {z : Int} (h : (zSH L a).1 = ci) (h2 : 0 ≤ k) (h3 : k < ((zSH L a).2 : Int)) (h4 : a < 118) (h5 : z = 0 ∨ z = 1) : zSZ (zW L m) ci a k z = some (zW L (zup m a k z)) := if_pos ⟨h5, h, h2, h3, h4⟩
theorem zw_len (h : 100 ≤ (zSH L a).1) (h2 : (zSH L a).2 ≤ 100000) : zLen (zW L m) a = some ((zSH L a).2 : Int) := if_pos ⟨h, h2⟩
theorem zw_cv {K : zmK} {y : Nat} {A : List zmV} (h : (zSH L a).1 = ci) : zcv K y ci a A (zW L m) = K y A (zW L m) := if_pos h
/-- a stretch of a cell copied -/
def zcp (m : Nat → Int → Int) (a0 : Nat) (sp : Int) (a : Nat) (dp n : Int) : Nat → Int → Int := fun b j => if b = a ∧ dp ≤ j ∧ j < dp + n then m a0 (sp + (j - dp)) else m b j
theorem zw_copy {a0 : Nat} {sp dp n : Int} (h1 : (zSH L a0).1 = 100) (h2 : (zSH L a).1 = 100) (h3 : a0 < 118) (h4 : a < 118) (h5 : 0 ≤ sp ∧ 0 ≤ dp ∧ 0 ≤ n) (h6 : sp + n ≤ ((zSH L a0).2 : Int)) (h7 : dp + n ≤ ((zSH L a).2 : Int)) : zCopy (zW L m) a0 sp a dp n = some (zW L (zcp m a0 sp a dp n)) := by
  unfold zCopy
  refine (if_pos ⟨h1, h2, h3, h4, h5.1, h5.2.1, h5.2.2, h6, h7⟩).trans ?_
  have e : (fun b j => if b = a then zcpy (m a0) (m a) sp dp n j else m b j) = zcp m a0 sp a dp n := by
    funext b j
    unfold zcp zcpy
    by_cases hb : b = a
    · subst hb
      by_cases hj : dp ≤ j ∧ j < dp + n
      · rw [if_pos rfl, if_pos hj, if_pos ⟨rfl, hj⟩]
      · rw [if_pos rfl, if_neg hj, if_neg (fun q => hj q.2)]
    · rw [if_neg hb, if_neg (fun q => hb q.1)]
  exact congrArg (fun q => some ((118, 31163, zSH L, zMR, q) : zmW)) e
end ZW
theorem w32_of {z : Int} (h : -2147483648 ≤ z) (h2 : z ≤ 2147483647) : w32 z = z := by
  unfold w32
  rw [Int.bmod_def]
  split <;> omega
theorem w64_of {z : Int} (h : -9223372036854775808 ≤ z) (h2 : z ≤ 9223372036854775807) : w64 z = z := by
  unfold w64
  rw [Int.bmod_def]
  split <;> omega
theorem zups {α : Type} {m : Nat → Int → α} {a : Nat} {k : Int} {z : α} : zup m a k z a k = z := if_pos ⟨rfl, rfl⟩
theorem zupo {α : Type} {m : Nat → Int → α} {a b : Nat} {k j : Int} {z : α} (h : b ≠ a) : zup m a k z b j = m b j := if_neg fun q => h q.1
theorem zupk {α : Type} {m : Nat → Int → α} {a b : Nat} {k j : Int} {z : α} (h : j ≠ k) : zup m a k z b j = m b j := if_neg fun q => h q.2
theorem zbs {α β : Type} {x : α} {f : α → Option β} : (some x).bind f = f x := rfl
/-- truth as a number -/
abbrev zB (p : Prop) [Decidable p] : Int := if p then 1 else 0
theorem zB_or {p : Prop} [Decidable p] : zB p = 0 ∨ zB p = 1 := by
  unfold zB
  split
  · exact .inr rfl
  · exact .inl rfl
