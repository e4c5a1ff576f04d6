/-! what is counted -/
def yCsq (P : Int → Bool) (b : Int → Int) : Nat → Int
  | 0 => 0
  | n + 1 => yCsq P b n + if P (b n) = true then 1 else 0
theorem yCsq_in {P : Int → Bool} {b : Int → Int} : ∀ n : Nat, 0 ≤ yCsq P b n ∧ yCsq P b n ≤ n
  | 0 => by show (0 : Int) ≤ 0 ∧ (0 : Int) ≤ ((0 : Nat) : Int); omega
  | n + 1 => by
    have := yCsq_in (P := P) (b := b) n
    rw [yCsq]
    split <;> omega
theorem yCsq_cg {P Q : Int → Bool} {b b' : Int → Int} : ∀ n : Nat, (∀ s : Int, 0 ≤ s → s < n → (P (b s) = true ↔ Q (b' s) = true)) → yCsq P b n = yCsq Q b' n
  | 0, _ => rfl
  | n + 1, h => by
    rw [yCsq, yCsq, yCsq_cg n fun s h1 h2 => h s h1 (by omega)]
    have := h n (by omega) (by omega)
    by_cases g : P (b n) = true
    · rw [if_pos g, if_pos (this.mp g)]
    · rw [if_neg g, if_neg (fun q => g (this.mpr q))]
def yWt (v : Int) : Bool := decide (0 < v ∧ v < 8)
def yBk (v : Int) : Bool := decide (8 < v)
def yWB (v : Int) : Bool := decide (0 < v)
theorem yCsq_sum {b : Int → Int} : ∀ n : Nat, (∀ s : Int, 0 ≤ s → s < n → b s ≠ 8) → yCsq yWB b n = yCsq yWt b n + yCsq yBk b n
  | 0, _ => rfl
  | n + 1, h => by
    rw [yCsq, yCsq, yCsq, yCsq_sum n fun s h1 h2 => h s h1 (by omega)]
    have := h n (by omega) (by omega)
    unfold yWB yWt yBk
    simp only [decide_eq_true_eq]
    by_cases g1 : 0 < b n <;> by_cases g2 : b n < 8
    · rw [if_pos g1, if_pos ⟨g1, g2⟩, if_neg (by omega)]
      omega
    · rw [if_pos g1, if_neg (fun q => g2 q.2), if_pos (by omega)]
      omega
    · rw [if_neg g1, if_neg (fun q => g1 q.1), if_neg (by omega)]
      omega
    · omega
/-- the weight of a move -/
def yWm (W : Int → Int) (b : Int → Int) (v : Int) : Int := W (b (v / 64) % 8 - 1)
noncomputable def yCoun (w : Int → List Int) (b : Int → Int) (c n e : Int) (W : Int → Int) (a : Int) : Int := if a = 0 then yCsq yWt b 64 + yCsq yBk b 64 else if a = 1 then yCsq yWt b 64 else if a = 2 then (w 0).length else if a = 3 then (w 1).length else if a = 4 then (w 2).length else if a = 5 then n else if a = 6 then (yGa (w 2)).length else if a = 7 then ySumL (yWm W b) (yMv b c) else if a = 8 then e else -2
theorem yCsq_s {P : Int → Bool} {b : Int → Int} {n : Nat} : yCsq P b (n + 1) = yCsq P b n + if P (b n) = true then 1 else 0 := rfl
section ZR
variable {L : Nat} {m : Nat → Int → Int} (D : Nat) {w : Int → List Int} {b : Int → Int} {c n e : Int} {W F : Int → Int} {Z : Int → List Int}
theorem zk_191 (g : Int) (hg : g = 1 ∨ g = -1) (hB : zOkC (m 9)) : zmD zP (D + 1) 191 [zr 8, zi g] (zW L m) = some (some (zi (yCsq (fun v => decide (0 < v * g)) (m 9) 64)), zW L m) := by
  rw [zen_191, zb_191_0]
  suffices go : ∀ k i : Nat, i + k = 64 → zmE (zmD zP D) zc_191 (4, [some (zr 8), some (zi g), some (zi (yCsq (fun v => decide (0 < v * g)) (m 9) i)), some (zi i)], [], zW L m) = some (some (zi (yCsq (fun v => decide (0 < v * g)) (m 9) 64)), zW L m) from go 64 0 (by omega)
  intro k
  induction k with
  | zero =>
    intro i hi
    rw [zb_191_4, if_neg (by omega), show i = 64 by omega]
  | succ k ih =>
    intro i hi
    have := hB i (by omega) (by omega)
    have q := yCsq_in (P := fun v => decide (0 < v * g)) (b := m 9) i
    have e := ih (i + 1) (by omega)
    have hm : w32 (m 9 i * g) = m 9 i * g := by
      rcases hg with rfl | rfl
      · exact w32_of (by omega) (by omega)
      · exact w32_of (by omega) (by omega)
    rw [yCsq_s] at e
    rw [zb_191_4, if_pos (by omega), zgr_8_0, zbs, zai_9 (by omega) (by omega), zbs, hm]
    by_cases k1 : 0 < m 9 i * g
    · rw [if_pos (show (fun v => decide (0 < v * g)) (m 9 i) = true from decide_eq_true k1)] at e
      rw [if_pos k1, zb_191_24, w32_of (by omega) (by omega), w32_of (by omega) (by omega)]
      exact e
    · rw [if_neg (show ¬ (fun v => decide (0 < v * g)) (m 9 i) = true from fun q => k1 (of_decide_eq_true q)), Int.add_zero] at e
      rw [if_neg k1, zb_191_24, w32_of (by omega) (by omega)]
      exact e
theorem yk_191w (h : yCs m w b c n e W F Z) : zmD zP (D + 1) 191 [zr 8, zi 1] (zW L m) = some (some (zi (yCsq yWt b 64)), zW L m) := by
  rw [zk_191 D 1 (.inl rfl) h.2.1.1.2.1, yCsq_cg (Q := yWt) (b' := b) 64 fun s s1 s2 => ?_]
  have h2 := h.2.1.2.1 s s1 s2
  have h3 := h.2.1.1.2.1 s s1 s2
  unfold yB yEnc at h2
  unfold yWt
  rw [← h2, decide_eq_true_eq, decide_eq_true_eq]
  split <;> omega
theorem yk_191b (h : yCs m w b c n e W F Z) : zmD zP (D + 1) 191 [zr 8, zi (-1)] (zW L m) = some (some (zi (yCsq yBk b 64)), zW L m) := by
  rw [zk_191 D (-1) (.inr rfl) h.2.1.1.2.1, yCsq_cg (Q := yBk) (b' := b) 64 fun s s1 s2 => ?_]
  have h2 := h.2.1.2.1 s s1 s2
  have h3 := h.2.1.1.2.1 s s1 s2
  unfold yB yEnc at h2
  unfold yBk
  rw [← h2, decide_eq_true_eq, decide_eq_true_eq]
  split <;> omega
theorem yWm_in (h : yCs m w b c n e W F Z) : ∀ v ∈ yMv b c, 0 ≤ yWm W b v ∧ yWm W b v ≤ 9 := fun v hv => by
  obtain ⟨v1, v2, v3⟩ := yPu_ok (yCs_pu h) v hv
  exact (h.2.2.2.2.2.1 _ (by omega) (by omega)).2
/-- the sum of the weights of the moves, class -/
theorem zk_137 (h : yCs m w b c n e W F Z) (hN : yNm2 m 13 b (yMv b c)) : zmD zP (D + 3) 137 [zr 13, zr 19] (zW L m) = some (some (zi (ySumL (yWm W b) (yMv b c))), zW L m) := by
  have hl : m 13 3 = (yMv b c).length := hN.1.1
  have hle := yMv_le (b := b) (c := c) (yCs_pu h).2.2.2
  have hok := yPu_ok (yCs_pu h)
  have hw := yWm_in h
  rw [zen_137, zb_137_0]
  suffices go : ∀ k i : Nat, i + k = (yMv b c).length → zmE (zmD zP (D+2)) zc_137 (4, [some (zr 13), some (zr 19), some (zi (ySumL (yWm W b) ((yMv b c).take i))), some (zi i)], [], zW L m) = some (some (zi (ySumL (yWm W b) (yMv b c))), zW L m) from go (yMv b c).length 0 (by omega)
  intro k
  induction k with
  | zero =>
    intro i hi
    rw [zb_137_4, zgi_13, zbs, hl, if_neg (by omega), show i = (yMv b c).length by omega, List.take_length]
  | succ k ih =>
    intro i hi
    obtain ⟨o1, o2, o3⟩ := yOkv_get hok (i := i) (by omega)
    have hin : 0 ≤ (i : Int) ∧ (i : Int) < m 13 3 := by rw [hl]; omega
    have hs := ySumL_in (f := yWm W b) (c := 9) ((yMv b c).take i) fun x hx => hw x (List.mem_of_mem_take hx)
    have hli : ((yMv b c).take i).length ≤ 512 := by rw [List.length_take]; omega
    have hk := (hN.1.2 i (by omega)).2
    have hk' : m (13 + 2) i = b ((yMv b c).getD i 0 / 64) % 8 - 1 := hk
    have hwi := h.2.2.2.2.2.1 (b ((yMv b c).getD i 0 / 64) % 8 - 1) (by omega) (by omega)
    have q := ih (i + 1) (by omega)
    rw [ySumL_take (f := yWm W b) (show i < (yMv b c).length by omega)] at q
    have e2 : yWm W b ((yMv b c).getD i 0) = W (b ((yMv b c).getD i 0 / 64) % 8 - 1) := rfl
    rw [e2] at q
    rw [zb_137_4, zgi_13, zbs, hl, if_pos (by omega), zcv_13, zen_132, zb_132_0, zcv_13, zk_96 D yLs_13 (by rw [hl]; omega), zbs, zmG_v, zb_132_5, if_pos hin, hk', if_neg (by omega), zlen_19, zbs, if_pos (by omega), zai_19 (by omega) (by omega), zbs, hwi.1, zbs, zmG_v, zb_137_19, w32_of (by omega) (by omega), w32_of (by omega) (by omega)]
    exact q
theorem yk_190 (h : yCs m w b c n e W F Z) (a : Int) : ∃ m', zmD zP (D + 9) 190 [zr 0, zi a] (zW L m) = some (some (zi (yCoun w b c n e W a)), zW L m') ∧ yFr 0 97 m m' ∧ yCs m' w b c n e W F Z := by
  unfold yCoun
  rw [zen_190, zb_190_0]
  have stay : ∀ {e0 : Option zmR} {x : Int}, e0 = some (some (zi x), zW L m) → ∃ m', e0 = some (some (zi x), zW L m') ∧ yFr 0 97 m m' ∧ yCs m' w b c n e W F Z := fun q => ⟨m, q, yFr_rfl, h⟩
  have i1 := yCsq_in (P := yWt) (b := b) 64
  have i2 := yCsq_in (P := yBk) (b := b) 64
  by_cases g0 : a = 0
  · rw [if_pos g0, if_pos g0]
    apply stay
    rw [zgr_0_1, zbs, zcv_8, yk_191w (D + 7) h, zbs, zmG_v, zb_190_60, zgr_0_1, zbs, zcv_8, yk_191b (D + 7) h, zbs, zmG_v, zb_190_68, w32_of (by omega) (by omega)]
  rw [if_neg g0, if_neg g0]
  by_cases g1 : a = 1
  · rw [if_pos g1, if_pos g1]
    apply stay
    rw [zgr_0_1, zbs, zcv_8, yk_191w (D + 7) h, zbs, zmG_v, zb_190_78]
  rw [if_neg g1, if_neg g1]
  by_cases g2 : a = 2
  · rw [if_pos g2, if_pos g2]
    apply stay
    rw [zgr_0_0, zbs, zar_1_0, zbs, yoc yTo_2, zk_22 (D + 7) yTo_2 h.1.1, zbs, zmG_v, zb_190_88]
  rw [if_neg g2, if_neg g2]
  by_cases g3 : a = 3
  · rw [if_pos g3, if_pos g3]
    apply stay
    rw [zgr_0_0, zbs, zar_1_1, zbs, yoc yTo_4, zk_22 (D + 7) yTo_4 h.1.2.1, zbs, zmG_v, zb_190_98]
  rw [if_neg g3, if_neg g3]
  by_cases g4 : a = 4
  · rw [if_pos g4, if_pos g4]
    apply stay
    rw [zgr_0_0, zbs, zar_1_2, zbs, yoc yTo_6, zk_22 (D + 7) yTo_6 h.1.2.2, zbs, zmG_v, zb_190_108]
  rw [if_neg g4, if_neg g4]
  by_cases g5 : a = 5
  · rw [if_pos g5, if_pos g5]
    apply stay
    rw [zgi_0, zbs, h.2.2.1.2.1]
  rw [if_neg g5, if_neg g5]
  by_cases g6 : a = 6
  · obtain ⟨M, r1, r2, r3, r4⟩ := zk_155 (L := L) D h.1.2.2 h.2.2.2.2.1.1
    have F1 : yFr 42 63 m M := yFr_of r2 fun x j q => by unfold yPs at q; omega
    obtain ⟨f1, f2⟩ := yCs_ga h F1
    rw [if_pos g6, if_pos g6, zgr_0_10, zbs, zgr_0_0, zbs, zar_1_2, zbs, zcv_42, r1, zbs, zmG_n, zb_190_127, zgr_0_10, zbs, zcv_42, zen_166, zb_166_0, zgi_42, zbs, r3, zbs, zmG_v, zb_190_134]
    exact ⟨M, rfl, f1, f2⟩
  rw [if_neg g6, if_neg g6]
  by_cases g7 : a = 7
  · obtain ⟨M, r1, r2, r3, r4⟩ := yk_74 (L := L) (D + 3) h
    rw [if_pos g7, if_pos g7, zcv_0, r1, zbs, zmG_n, zb_190_139, zgr_0_5, zbs, zgr_0_7, zbs, zcv_13, zk_137 (D + 5) r3 r4, zbs, zmG_v, zb_190_150]
    exact ⟨M, rfl, yFq_pl r2, r3⟩
  rw [if_neg g7, if_neg g7]
  by_cases g8 : a = 8
  · rw [if_pos g8, if_pos g8]
    apply stay
    rw [zgi_0, zbs, h.2.2.1.2.2]
  · rw [if_neg g8, if_neg g8]
    exact stay rfl
end ZR
