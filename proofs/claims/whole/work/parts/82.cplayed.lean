/-! played, move, purse of the class -/
def yFa (ps : List (List Int)) (v : Int) (d : Nat) : Nat → Int
  | 0 => -1
  | k + 1 => if v < ySp ps (d - k) then ((d - k - 1 : Nat) : Int) else yFa ps v d k
/-- what is told of a game played -/
noncomputable def yGt (ps : List (List Int)) (b : Int → Int) (c : Int) (what : Int) : Int := if what = 0 then (if (yGo ps b c).length < ps.length then ((yGo ps b c).length : Int) else -1) else if what = 1 then (yGo ps b c).length else ySp ps (yGo ps b c).length
theorem yGa_sum {w : List Int} (hw : w.length ≤ 60) (k : Nat) (hk : k ≤ (yGa w).length) : 0 ≤ ySp (yGa w) k ∧ ySp (yGa w) k ≤ 60 := by
  by_cases h : w = [] ∨ yGf w ≠ -1
  · rw [yGa_no h] at hk ⊢
    have : k = 0 := Nat.le_zero.mp hk
    subst this
    decide
  · have h1 : w ≠ [] := fun q => h (.inl q)
    have h2 : yGf w = -1 := Classical.byContradiction fun q => h (.inr q)
    rw [yGa_ok h1 h2] at hk ⊢
    have := yPcs_sum w k hk
    omega
theorem ySp_0 {ps : List (List Int)} : ySp ps 0 = 0 := by cases ps <;> rfl
section ZR
variable {L : Nat} {m : Nat → Int → Int} (D : Nat) {w : Int → List Int} {b : Int → Int} {c n e : Int} {W F : Int → Int} {Z : Int → List Int}
theorem yk_153 (h : yCs m w b c n e W F Z) (a : Int) : ∃ m', zmD zP (D + 10) 153 [zr 0, zi a] (zW L m) = some (some (zi (if 0 ≤ a ∧ a ≤ 2 then yGt (yGa (w 2)) b c a else -2)), zW L m') ∧ yFr 0 97 m m' ∧ yCs m' w b c n e W F Z := by
  rw [zen_153, zb_153_0]
  by_cases g : a < 0
  · rw [if_pos g, if_neg (by omega)]
    exact ⟨m, rfl, yFr_rfl, h⟩
  by_cases g2 : 2 < a
  · rw [if_neg g, if_pos g2, if_neg (by omega)]
    exact ⟨m, rfl, yFr_rfl, h⟩
  obtain ⟨M, r1, r2, ⟨r3, r4⟩, r5, r6⟩ := zk_154 (L := L) D h
  obtain ⟨f1, f2⟩ := yCs_ga h r2
  have hle := yGo_le (b := b) (c := c) (yGa (w 2)) b c
  have h12 := yGa_le (w := w 2)
  have h60 := h.1.2.2.2.1
  refine ⟨M, ?_, f1, f2⟩
  rw [if_neg g, if_neg g2, if_pos (by omega), zgr_0_10, zbs, zgr_0_0, zbs, zar_1_2, zbs, zgr_0_1, zbs, zcv_42, r1, zbs, zmG_n, zb_153_29]
  unfold yGt
  by_cases g3 : a = 0
  · rw [if_pos g3, if_pos g3, zgr_0_10, zbs, zcv_42, zen_157, zb_157_0, zgi_42, zbs, r4, zgi_42, zbs, r3]
    by_cases g4 : (yGo (yGa (w 2)) b c).length < (yGa (w 2)).length
    · rw [if_pos (by omega), if_pos g4, zbs, zbs, zmG_v, zb_153_63]
    · rw [if_neg (by omega), if_neg g4, zbs, zmG_v, zb_153_63]
  rw [if_neg g3, if_neg g3]
  by_cases g4 : a = 1
  · rw [if_pos g4, if_pos g4, zgr_0_10, zbs, zcv_42, zen_158, zb_158_0, zgi_42, zbs, r4, zbs, zmG_v, zb_153_71]
  rw [if_neg g4, if_neg g4, zgr_0_10, zbs, zcv_42, zen_159, zb_159_0]
  suffices go : ∀ k i : Nat, i + k = (yGo (yGa (w 2)) b c).length → zmE (zmD zP (D+8)) zc_159 (4, [some (zr 42), some (zi (ySp (yGa (w 2)) i)), some (zi i)], [], zW L M) = some (some (zi (ySp (yGa (w 2)) (yGo (yGa (w 2)) b c).length)), zW L M) by
    have := go (yGo (yGa (w 2)) b c).length 0 (by omega)
    rw [ySp_0] at this
    have e : ∀ X, zmE (zmD zP (D + 8)) zc_159 (4, [some (zr 42), some (zi 0), some (zi ((0 : Nat) : Int))], [], zW L M) = X → zmE (zmD zP (D + 8)) zc_159 (4, [some (zr 42), some (zi 0), some (zi 0)], [], zW L M) = X := fun X q => q
    rw [e _ this, zbs, zmG_v, zb_153_79]
  intro k
  induction k with
  | zero =>
    intro i hi
    rw [zb_159_4, zgi_42, zbs, r4, if_neg (by omega), show i = (yGo (yGa (w 2)) b c).length by omega]
  | succ k ih =>
    intro i hi
    have s1 := yGa_sum h60 i (by omega)
    have s2 := yGa_sum h60 (i + 1) (by omega)
    have s3 := ySp_s (yGa (w 2)) i (by omega)
    rw [zb_159_4, zgi_42, zbs, r4, if_pos (by omega), zgr_42_1, zbs, zai_56 (by omega) (by omega), zbs, r5 i (by omega), ← s3, w32_of (by omega) (by omega), w32_of (by omega) (by omega)]
    exact ih (i + 1) (by omega)
theorem yk_160 (h : yCs m w b c n e W F Z) (i : Int) : ∃ m', zmD zP (D + 10) 160 [zr 0, zi i] (zW L m) = some (some (zi (if i < 0 then -2 else yGet (yGo (yGa (w 2)) b c) i)), zW L m') ∧ yFr 0 97 m m' ∧ yCs m' w b c n e W F Z := by
  rw [zen_160, zb_160_0]
  by_cases g : i < 0
  · rw [if_pos g, if_pos g]
    exact ⟨m, rfl, yFr_rfl, h⟩
  obtain ⟨M, r1, r2, ⟨r3, r4⟩, r5, r6⟩ := zk_154 (L := L) D h
  obtain ⟨f1, f2⟩ := yCs_ga h r2
  have hle := yGo_le (b := b) (c := c) (yGa (w 2)) b c
  have h12 := yGa_le (w := w 2)
  refine ⟨M, ?_, f1, f2⟩
  rw [if_neg g, if_neg g, zgr_0_10, zbs, zgr_0_0, zbs, zar_1_2, zbs, zgr_0_1, zbs, zcv_42, r1, zbs, zmG_n, zb_160_24, zgr_0_10, zbs, zcv_42, zen_161, zb_161_0, if_neg g, zgi_42, zbs, r4]
  unfold yGet
  by_cases g2 : i < (yGo (yGa (w 2)) b c).length
  · have e1 := r6 i.toNat (by omega)
    rw [show ((i.toNat : Nat) : Int) = i by omega] at e1
    rw [if_pos g2, if_pos ⟨by omega, g2⟩, zgr_42_2, zbs, zai_57 (by omega) (by omega), zbs, e1, zbs, zmG_v, zb_160_32]
  · rw [if_neg g2, if_neg (fun q => g2 q.2), zbs, zmG_v, zb_160_32]
theorem yk_162 (h : yCs m w b c n e W F Z) (v : Int) : ∃ m', zmD zP (D + 10) 162 [zr 0, zi v] (zW L m) = some (some (zi (if 0 ≤ v ∧ v ≤ 99 then yFa (yGa (w 2)) v (yGo (yGa (w 2)) b c).length (yGo (yGa (w 2)) b c).length else -2)), zW L m') ∧ yFr 0 97 m m' ∧ yCs m' w b c n e W F Z := by
  rw [zen_162, zb_162_0]
  by_cases g : v < 0
  · rw [if_pos g, if_neg (by omega)]
    exact ⟨m, rfl, yFr_rfl, h⟩
  by_cases g2 : 99 < v
  · rw [if_neg g, if_pos g2, if_neg (by omega)]
    exact ⟨m, rfl, yFr_rfl, h⟩
  obtain ⟨M, r1, r2, ⟨r3, r4⟩, r5, r6⟩ := zk_154 (L := L) D h
  obtain ⟨f1, f2⟩ := yCs_ga h r2
  have hle := yGo_le (b := b) (c := c) (yGa (w 2)) b c
  have h12 := yGa_le (w := w 2)
  have h60 := h.1.2.2.2.1
  refine ⟨M, ?_, f1, f2⟩
  rw [if_neg g, if_neg g2, if_pos (by omega), zgr_0_10, zbs, zgr_0_0, zbs, zar_1_2, zbs, zgr_0_1, zbs, zcv_42, r1, zbs, zmG_n, zb_162_30, zgr_0_10, zbs, zcv_42, zen_163, zb_163_0]
  suffices go : ∀ k i : Nat, i + k = (yGo (yGa (w 2)) b c).length → zmE (zmD zP (D+8)) zc_163 (4, [some (zr 42), some (zi v), some (zi (ySp (yGa (w 2)) i)), some (zi i)], [], zW L M) = some (some (zi (yFa (yGa (w 2)) v (yGo (yGa (w 2)) b c).length k)), zW L M) by
    have := go (yGo (yGa (w 2)) b c).length 0 (by omega)
    rw [ySp_0] at this
    have e : ∀ X, zmE (zmD zP (D + 8)) zc_163 (4, [some (zr 42), some (zi v), some (zi 0), some (zi ((0 : Nat) : Int))], [], zW L M) = X → zmE (zmD zP (D + 8)) zc_163 (4, [some (zr 42), some (zi v), some (zi 0), some (zi 0)], [], zW L M) = X := fun X q => q
    rw [e _ this, zbs, zmG_v, zb_162_38]
  intro k
  induction k with
  | zero =>
    intro i hi
    rw [zb_163_4, zgi_42, zbs, r4, if_neg (by omega)]
    rfl
  | succ k ih =>
    intro i hi
    have s1 := yGa_sum h60 i (by omega)
    have s2 := yGa_sum h60 (i + 1) (by omega)
    have s3 := ySp_s (yGa (w 2)) i (by omega)
    rw [zb_163_4, zgi_42, zbs, r4, if_pos (by omega), zgr_42_1, zbs, zai_56 (by omega) (by omega), zbs, r5 i (by omega), ← s3, w32_of (z := ySp (yGa (w 2)) (i + 1)) (by omega) (by omega), yFa, show (yGo (yGa (w 2)) b c).length - k = i + 1 by omega]
    by_cases q : v < ySp (yGa (w 2)) (i + 1)
    · rw [if_pos q, if_pos q, show i + 1 - 1 = i by omega]
    · rw [if_neg q, if_neg q, w32_of (z := (i : Int) + 1) (by omega) (by omega)]
      exact ih (i + 1) (by omega)
end ZR
