/-! a board's text, read: what both do; the class's reader -/
def yHk (B : Int → Int) (k : Int) : Prop := ∃ s, 0 ≤ s ∧ s < 64 ∧ B s = k
theorem yHk_cg {B B' : Int → Int} (h : yAg B B') {k : Int} : yHk B k ↔ yHk B' k := ⟨fun ⟨s, h1, h2, h3⟩ => ⟨s, h1, h2, by rw [← h s h1 h2]; exact h3⟩, fun ⟨s, h1, h2, h3⟩ => ⟨s, h1, h2, by rw [h s h1 h2]; exact h3⟩⟩
def ySet (B : Int → Int) (p v : Int) : Int → Int := fun s => if s = p then v else B s
/-- a text read on from a row, a column and a stage (0 rows, 1 side, 2 end, 3 stopped): where, which stage, the men, the turn -/
noncomputable def yRd : List Int → Int → Int → Int → (Int → Int) → Int → Int → Int × Int × (Int → Int) × Int
  | [], _, _, st, B, t, k => (k, st, B, t)
  | b :: w, row, col, st, B, t, k =>
    if st = 1 then (if b = 119 then yRd w row col 2 B 0 (k + 1) else if b = 98 then yRd w row col 2 B 8 (k + 1) else (k, 3, B, t))
    else if st = 2 then (k, 3, B, t)
    else if 49 ≤ b ∧ b ≤ 56 then (if col + (b - 48) ≤ 8 then yRd w row (col + (b - 48)) 0 B t (k + 1) else (k, 3, B, t))
    else if b = 47 ∨ b = 32 then (if col = 8 ∧ (row = 0 ↔ b = 32) then (if row = 0 then yRd w row col 1 B t (k + 1) else yRd w (row - 1) 0 0 B t (k + 1)) else (k, 3, B, t))
    else if yT (zman b ≠ 0 ∧ col < 8 ∧ ¬ ((zman b = 6 ∨ zman b = 14) ∧ yHk B (zman b))) = 0 then (k, 3, B, t)
    else yRd w row (col + 1) 0 (ySet B (8 * row + col) (zman b)) t (k + 1)
theorem yRd_nil {row col st : Int} {B : Int → Int} {t k : Int} : yRd [] row col st B t k = (k, st, B, t) := rfl
theorem yRd_cons {b : Int} {w : List Int} {row col st : Int} {B : Int → Int} {t k : Int} : yRd (b :: w) row col st B t k = if st = 1 then (if b = 119 then yRd w row col 2 B 0 (k + 1) else if b = 98 then yRd w row col 2 B 8 (k + 1) else (k, 3, B, t)) else if st = 2 then (k, 3, B, t) else if 49 ≤ b ∧ b ≤ 56 then (if col + (b - 48) ≤ 8 then yRd w row (col + (b - 48)) 0 B t (k + 1) else (k, 3, B, t)) else if b = 47 ∨ b = 32 then (if col = 8 ∧ (row = 0 ↔ b = 32) then (if row = 0 then yRd w row col 1 B t (k + 1) else yRd w (row - 1) 0 0 B t (k + 1)) else (k, 3, B, t)) else if yT (zman b ≠ 0 ∧ col < 8 ∧ ¬ ((zman b = 6 ∨ zman b = 14) ∧ yHk B (zman b))) = 0 then (k, 3, B, t) else yRd w row (col + 1) 0 (ySet B (8 * row + col) (zman b)) t (k + 1) := rfl
def yB0 : Int → Int := fun s => if s = 0 then 6 else if s = 63 then 14 else 0
def yGood (r : Int × Int × (Int → Int) × Int) : Prop := r.2.1 = 2 ∧ yHk r.2.2.1 6 ∧ yHk r.2.2.1 14
/-- fault, men and turn of a text -/
noncomputable def yHome (w : List Int) : Int × (Int → Int) × Int := if yT (yGood (yRd w 7 0 0 (fun _ => 0) 0 0)) = 0 then ((yRd w 7 0 0 (fun _ => 0) 0 0).1, yB0, 0) else (-1, (yRd w 7 0 0 (fun _ => 0) 0 0).2.2.1, (yRd w 7 0 0 (fun _ => 0) 0 0).2.2.2)
/-- a whole board of the class, both kings told -/
def yGd2 (m : Nat → Int → Int) (a e : Nat) : Prop := yTab m ∧ zOkC (m e) ∧ (m a 1 = 0 ∨ m a 1 = 1) ∧ yKg (m e) 6 (m a 2) ∧ yKg (m e) (-6) (m a 3)
theorem yGd2_1 {m : Nat → Int → Int} {a e : Nat} (h : yGd2 m a e) : yGd m a e := by
  refine ⟨h.1, h.2.1, h.2.2.1, ?_⟩
  split
  · exact h.2.2.2.1
  · exact h.2.2.2.2
theorem yGd2_fr {m m' : Nat → Int → Int} {a e lo hi : Nat} (h : yGd2 m a e) (hf : yFr lo hi m m') (ha : a < lo ∨ hi < a) (he : e < lo ∨ hi < e) (hi2 : hi < 1000) : yGd2 m' a e := by
  unfold yGd2
  rw [hf a ha, hf e he]
  exact ⟨yTab_fr h.1 hf hi2, h.2⟩
theorem yKg_iff {b : Int → Int} {v k : Int} (h : yKg b v k) : k ≠ -1 ↔ ∃ s, 0 ≤ s ∧ s < 64 ∧ b s = v := by
  rcases h with ⟨h1, h2⟩ | ⟨h1, h2, h3, -⟩
  · exact ⟨fun q => absurd h1 q, fun ⟨s, s1, s2, s3⟩ => absurd s3 (h2 s s1 s2)⟩
  · exact ⟨fun _ => ⟨k, h1, h2, h3⟩, fun _ => by omega⟩
theorem yEnc_6 {v : Int} (hv : -6 ≤ v ∧ v ≤ 6) : (yEnc v = 6 ↔ v = 6) ∧ (yEnc v = 14 ↔ v = -6) := by
  unfold yEnc
  split <;> omega
theorem yHk_yB {b : Int → Int} (hB : zOkC b) : (yHk (yB b) 6 ↔ ∃ s, 0 ≤ s ∧ s < 64 ∧ b s = 6) ∧ (yHk (yB b) 14 ↔ ∃ s, 0 ≤ s ∧ s < 64 ∧ b s = -6) := by
  refine ⟨⟨fun ⟨s, h1, h2, h3⟩ => ⟨s, h1, h2, (yEnc_6 (hB s h1 h2)).1.mp h3⟩, fun ⟨s, h1, h2, h3⟩ => ⟨s, h1, h2, (yEnc_6 (hB s h1 h2)).1.mpr h3⟩⟩, ⟨fun ⟨s, h1, h2, h3⟩ => ⟨s, h1, h2, (yEnc_6 (hB s h1 h2)).2.mp h3⟩, fun ⟨s, h1, h2, h3⟩ => ⟨s, h1, h2, (yEnc_6 (hB s h1 h2)).2.mpr h3⟩⟩⟩
/-- the class's board and its reader between two bytes -/
def yRc (m : Nat → Int → Int) (row col st : Int) (B : Int → Int) (t : Int) : Prop := (m 10 0 = row ∧ m 10 1 = col ∧ m 10 2 = st) ∧ yGd2 m 8 9 ∧ yAg (yB (m 9)) B ∧ 8 * m 8 1 = t ∧ (0 ≤ row ∧ row ≤ 7) ∧ (0 ≤ col ∧ col ≤ 8) ∧ (st = 0 ∨ st = 1 ∨ st = 2) ∧ (st = 0 → ∀ s, 0 ≤ s → (s < 8 * row ∨ 8 * row + col ≤ s ∧ s < 8 * row + 8) → B s = 0)
theorem yKg_set {b : Int → Int} {p v u k : Int} (hp : 0 ≤ p ∧ p < 64) (hv : v ≠ u) (hb : b p ≠ u) (h : yKg b u k) : yKg (fun s => if s = p then v else b s) u k := by
  rcases h with ⟨h1, h2⟩ | ⟨h1, h2, h3, h4⟩
  · refine .inl ⟨h1, fun s s1 s2 => ?_⟩
    dsimp only
    split
    · exact hv
    · exact h2 s s1 s2
  · refine .inr ⟨h1, h2, ?_, fun s s1 s2 h5 => ?_⟩
    · show (if k = p then v else b k) = u
      rw [if_neg]
      · exact h3
      · intro q
        rw [q] at h3
        exact hb h3
    · dsimp only at h5
      split at h5
      · exact absurd h5 hv
      · exact h4 s s1 s2 h5
theorem yKg_new {b : Int → Int} {p u : Int} (hp : 0 ≤ p ∧ p < 64) (h : ∀ s, 0 ≤ s → s < 64 → b s ≠ u) : yKg (fun s => if s = p then u else b s) u p := by
  refine .inr ⟨hp.1, hp.2, if_pos rfl, fun s s1 s2 h5 => ?_⟩
  dsimp only at h5
  split at h5
  · assumption
  · exact absurd h5 (h s s1 s2)
section ZR
variable {L : Nat} {m : Nat → Int → Int} (D : Nat)
theorem yBd_8 {L : Nat} : yBd L 8 9 := ⟨zh_8, (zw_gr (L := L) (m := fun _ _ => 0) (congrArg Prod.fst zh_8)).symm.trans zgr_8_0, zh_9, by decide, by decide, by decide⟩
theorem zk_21 {e n : Nat} (he : zSH L e = (100, n)) (hn : n ≤ 2000) (he2 : e < 118) : zmD zP (D + 1) 21 [zr e, zi 0] (zW L m) = some (none, zW L (fun b j => if b = e ∧ 0 ≤ j ∧ j < n then 0 else m b j)) := by
  have hs : ∀ (M : Nat → Int → Int) (k z : Int), 0 ≤ k → k < n → zSI (zW L M) 100 e k z = some (zW L (zup M e k z)) := fun M k z h1 h2 => zw_si (congrArg Prod.fst he) h1 (by rw [he]; exact h2) he2
  rw [zen_21, zb_21_0, zw_len (by rw [he]; exact Nat.le_refl 100) (by rw [he]; show n ≤ 100000; omega), zbs, he]
  suffices go : ∀ k i : Nat, i + k = n → zmE (zmD zP D) zc_21 (5, [some (zr e), some (zi 0), some (zi i), some (zi n)], [], zW L ((fun b j => if b = e ∧ 0 ≤ j ∧ j < (i : Int) then 0 else m b j))) = some (none, zW L (fun b j => if b = e ∧ 0 ≤ j ∧ j < (n : Int) then 0 else m b j)) by
    have e0 := go n 0 (by omega)
    have e1 : (fun (b : Nat) (j : Int) => if b = e ∧ 0 ≤ j ∧ j < ((0 : Nat) : Int) then 0 else m b j) = m := by
      funext b j
      rw [if_neg]
      rintro ⟨-, h1, h2⟩
      rw [Int.natCast_zero] at h2
      omega
    rw [e1] at e0
    exact e0
  intro k
  induction k with
  | zero =>
    intro i hi
    rw [zb_21_5, if_neg (by omega), show i = n by omega]
  | succ k ih =>
    intro i hi
    rw [zb_21_5, if_pos (by omega), hs _ _ _ (by omega) (by omega), zbs, w32_of (by omega) (by omega)]
    have e0 := ih (i + 1) (by omega)
    rw [Int.natCast_succ] at e0
    have e1 : zup (fun (b : Nat) (j : Int) => if b = e ∧ 0 ≤ j ∧ j < (i : Int) then 0 else m b j) e i 0 = fun b j => if b = e ∧ 0 ≤ j ∧ j < (i : Int) + 1 then 0 else m b j := by
      funext b j
      unfold zup
      by_cases g : b = e ∧ j = i
      · rw [if_pos g, if_pos ⟨g.1, by omega, by omega⟩]
      · rw [if_neg g]
        dsimp only
        by_cases g2 : b = e ∧ 0 ≤ j ∧ j < (i : Int)
        · rw [if_pos g2, if_pos ⟨g2.1, g2.2.1, by omega⟩]
        · rw [if_neg g2, if_neg]
          rintro ⟨q1, q2, q3⟩
          by_cases q4 : j = i
          · exact g ⟨q1, q4⟩
          · exact g2 ⟨q1, q2, by omega⟩
    rw [e1]
    exact e0
/-- the class's board cleared -/
theorem zk_20 (hT : yTab m) : ∃ m', zmD zP (D + 2) 20 [zr 8] (zW L m) = some (none, zW L m') ∧ yFr 8 9 m m' ∧ yGd2 m' 8 9 ∧ yAg (yB (m' 9)) (fun _ => 0) ∧ m' 8 1 = 0 := by
  rw [zen_20, zb_20_0, zgr_8_0, zbs, zk_21 D zh_9 (by decide) (by decide), zbs, zmG_n, zb_20_8, zpi_8, zbs, zpi_8, zbs, zpi_8, zbs]
  generalize hM : (fun (b : Nat) (j : Int) => if b = 9 ∧ 0 ≤ j ∧ j < ((64 : Nat) : Int) then 0 else m b j) = M
  have h9 : ∀ s, 0 ≤ s → s < 64 → M 9 s = 0 := fun s h1 h2 => by
    rw [← hM]
    exact if_pos ⟨rfl, h1, h2⟩
  have hF : yFr 8 9 m (zup (zup (zup M 8 2 (-1)) 8 3 (-1)) 8 1 0) := fun x hx => by
    funext j
    rw [zup_ne (by omega), zup_ne (by omega), zup_ne (by omega), ← hM]
    exact if_neg (fun q => by omega)
  have e9 : (zup (zup (zup M 8 2 (-1)) 8 3 (-1)) 8 1 0) 9 = M 9 := by
    funext j
    rw [zup_ne (by decide), zup_ne (by decide), zup_ne (by decide)]
  refine ⟨_, rfl, hF, ⟨yTab_fr hT hF (by decide), ?_, .inl zup_self, ?_, ?_⟩, ?_, zup_self⟩
  · rw [e9]
    exact fun s h1 h2 => by rw [h9 s h1 h2]; decide
  · rw [e9, zup_ne2 (by decide), zup_ne2 (by decide), zup_self]
    exact .inl ⟨rfl, fun s h1 h2 => by rw [h9 s h1 h2]; decide⟩
  · rw [e9, zup_ne2 (by decide), zup_self]
    exact .inl ⟨rfl, fun s h1 h2 => by rw [h9 s h1 h2]; decide⟩
  · rw [e9]
    exact fun s h1 h2 => by
      unfold yB
      rw [h9 s h1 h2]
      rfl
theorem zk_50 (k : Int) : zmD zP (D + 1) 50 [zr 8, zi k] (zW L m) = some (some (zi (yT (k = 6 ∧ m 8 2 ≠ -1 ∨ k = -6 ∧ m 8 3 ≠ -1))), zW L m) := by
  rw [zen_50, zb_50_0]
  by_cases g : k = 6
  · rw [if_pos g, zgi_8, zbs]
    by_cases g2 : m 8 2 = -1
    · rw [if_pos g2, yT_neg (by omega)]
    · rw [if_neg g2, yT_pos (.inl ⟨g, g2⟩)]
  · rw [if_neg g]
    by_cases g1 : k = -6
    · rw [if_pos g1, zgi_8, zbs]
      by_cases g2 : m 8 3 = -1
      · rw [if_pos g2, yT_neg (by omega)]
      · rw [if_neg g2, yT_pos (.inr ⟨g1, g2⟩)]
    · rw [if_neg g1, yT_neg (by omega)]
/-- a man put on an empty board's square, or a king where there is none -/
theorem yPt_good {s v : Int} (hs : 0 ≤ s ∧ s < 64) (hv : -6 ≤ v ∧ v ≤ 6) (h : yGd2 m 8 9) (h0 : m 9 s ≠ 6 ∧ m 9 s ≠ -6) (hk : v = 6 → m 8 2 = -1) (hk2 : v = -6 → m 8 3 = -1) : yGd2 (yPt m 8 9 s v) 8 9 ∧ yFr 8 9 m (yPt m 8 9 s v) ∧ yAg (yB (yPt m 8 9 s v 9)) (ySet (yB (m 9)) s (yEnc v)) ∧ yPt m 8 9 s v 8 1 = m 8 1 := by
  have e9 : yPt m 8 9 s v 9 = fun x => if x = s then v else m 9 x := by
    funext x
    have e0 : zup m 9 s v 9 x = if x = s then v else m 9 x := by
      by_cases g : x = s
      · rw [g, zup_self, if_pos rfl]
      · rw [zup_ne2 g, if_neg g]
    unfold yPt
    split
    · rw [zup_ne (by decide), e0]
    · split
      · rw [zup_ne (by decide), e0]
      · exact e0
  have hF : yFr 8 9 m (yPt m 8 9 s v) := fun x hx => by
    funext j
    unfold yPt
    split
    · rw [zup_ne (by omega), zup_ne (by omega)]
    · split
      · rw [zup_ne (by omega), zup_ne (by omega)]
      · rw [zup_ne (by omega)]
  have t1 : yPt m 8 9 s v 8 1 = m 8 1 := yPt_1 (by decide)
  obtain ⟨hT, hB, ht, k1, k2⟩ := h
  refine ⟨⟨yTab_fr hT hF (by decide), ?_, by rw [t1]; exact ht, ?_, ?_⟩, hF, ?_, t1⟩
  · rw [e9]
    intro x x1 x2
    dsimp only
    split
    · exact hv
    · exact hB x x1 x2
  · rw [e9]
    by_cases g : v = 6
    · have e2 : yPt m 8 9 s v 8 2 = s := by
        unfold yPt
        rw [if_pos g, zup_self]
      rw [e2, g]
      refine yKg_new hs fun x x1 x2 => ?_
      rcases k1 with ⟨-, q⟩ | ⟨q, -⟩
      · exact q x x1 x2
      · have := hk g
        omega
    · have e2 : yPt m 8 9 s v 8 2 = m 8 2 := by
        unfold yPt
        rw [if_neg g]
        split
        · rw [zup_ne2 (by decide), zup_ne (by decide)]
        · rw [zup_ne (by decide)]
      rw [e2]
      exact yKg_set hs g h0.1 k1
  · rw [e9]
    by_cases g : v = -6
    · have e2 : yPt m 8 9 s v 8 3 = s := by
        unfold yPt
        rw [if_neg (by omega), if_pos g, zup_self]
      rw [e2, g]
      refine yKg_new hs fun x x1 x2 => ?_
      rcases k2 with ⟨-, q⟩ | ⟨q, -⟩
      · exact q x x1 x2
      · have := hk2 g
        omega
    · have e2 : yPt m 8 9 s v 8 3 = m 8 3 := by
        unfold yPt
        split
        · rw [zup_ne2 (by decide), zup_ne (by decide)]
        · first | rw [if_neg g, zup_ne (by decide)] | rw [zup_ne (by decide)]
      rw [e2]
      exact yKg_set hs g h0.2 k2
  · rw [e9]
    intro x x1 x2
    unfold yB ySet
    dsimp only
    split <;> rfl
end ZR
