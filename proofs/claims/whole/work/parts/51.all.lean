/-! nameAll, the fewest signs: the class -/
theorem yFm_succ {b : Int → Int} {xs : List Int} {v : Int} (f : Nat) : yFm b xs v (f + 1) = if yFm b xs v f ≠ 10 then yFm b xs v f else if yCn b xs f v = 1 then f else 10 := rfl
theorem yFm_keep {b : Int → Int} {xs : List Int} {v : Int} {f : Nat} (h : yFm b xs v f ≠ 10) : ∀ k : Nat, yFm b xs v (f + k) = yFm b xs v f
  | 0 => rfl
  | k + 1 => by
    have e := yFm_keep h k
    show (if yFm b xs v (f + k) ≠ 10 then yFm b xs v (f + k) else _) = _
    rw [e, if_pos h]
theorem yFm_lt {b : Int → Int} {xs : List Int} {v : Int} : ∀ f : Nat, yFm b xs v f = 10 ∨ 0 ≤ yFm b xs v f ∧ yFm b xs v f < f
  | 0 => .inl rfl
  | f + 1 => by
    have h := yFm_lt (b := b) (xs := xs) (v := v) f
    unfold yFm
    split
    · rcases h with h | h
      · contradiction
      · exact .inr (by omega)
    · split
      · exact .inr (by omega)
      · exact .inl rfl
theorem yFm_next {b : Int → Int} {xs : List Int} {v : Int} {f : Nat} (h : yFm b xs v f = 10) (k : Nat) : yFm b xs v (f + k) = 10 ∨ (f : Int) ≤ yFm b xs v (f + k) ∧ yFm b xs v (f + k) < f + k := by
  induction k with
  | zero => exact .inl h
  | succ k ih =>
    show (if yFm b xs v (f + k) ≠ 10 then yFm b xs v (f + k) else if yCn b xs ((f + k : Nat) : Int) v = 1 then ((f + k : Nat) : Int) else 10) = 10 ∨ _ ≤ (if yFm b xs v (f + k) ≠ 10 then yFm b xs v (f + k) else if yCn b xs ((f + k : Nat) : Int) v = 1 then ((f + k : Nat) : Int) else 10) ∧ (if yFm b xs v (f + k) ≠ 10 then yFm b xs v (f + k) else if yCn b xs ((f + k : Nat) : Int) v = 1 then ((f + k : Nat) : Int) else 10) < _
    rcases ih with ih | ih
    · rw [ih, if_neg (by decide)]
      split
      · exact .inr (by omega)
      · exact .inl rfl
    · by_cases g : yFm b xs v (f + k) = 10
      · rw [g, if_neg (by decide)]
        split
        · exact .inr (by omega)
        · exact .inl rfl
      · rw [if_pos g]
        exact .inr (by omega)
/-- how many signs the shortest saying of a move has -/
def yNs (b : Int → Int) (xs : List Int) (v : Int) : Int := yPop (yForm (yFm b xs v 10))
theorem tPop_mono : ∀ i : Nat, i < 11 → ∀ j : Nat, j < 11 → i ≤ j → yPop (yForm i) ≤ yPop (yForm j) := by decide +kernel
theorem tPop_in : ∀ i : Nat, i < 11 → 1 ≤ yPop (yForm i) ∧ yPop (yForm i) ≤ 4 := by decide +kernel
theorem tPop_10 : yPop (yForm 10) = 4 := by decide
/-- what nameAll leaves: forms settled up to f, and why no further -/
def yDone (b : Int → Int) (xs : List Int) (o : Int) (f : Nat) : Prop := f ≤ 10 ∧ (f = 10 ∨ (∀ i : Nat, i < xs.length → yFm b xs (xs.getD i 0) f ≠ 10) ∨ o ≠ 0 ∧ 0 < f ∧ (∃ i : Nat, i < xs.length ∧ yFm b xs (xs.getD i 0) f ≠ 10) ∧ yPop (yForm ((f : Int) - 1)) < yPop (yForm f))
theorem yDone_whole {b : Int → Int} {xs : List Int} {f : Nat} (h : yDone b xs 0 f) {i : Nat} (hi : i < xs.length) : yFm b xs (xs.getD i 0) f = yFm b xs (xs.getD i 0) 10 := by
  obtain ⟨h1, h2 | h2 | h2⟩ := h
  · rw [h2]
  · have e := yFm_keep (h2 i hi) (10 - f)
    rw [show f + (10 - f) = 10 by omega] at e
    exact e.symm
  · exact absurd rfl h2.1
/-- a place that is the first with the fewest signs, by signs s -/
def yFew (n : Nat) (s : Nat → Int) (p : Int) : Prop := n = 0 ∧ p = -1 ∨ ∃ i : Nat, p = i ∧ i < n ∧ ∀ j : Nat, j < n → s i ≤ s j ∧ (j < i → s i < s j)
theorem yFew_uniq {n : Nat} {s : Nat → Int} {p p' : Int} (h : yFew n s p) (h' : yFew n s p') : p = p' := by
  rcases h with ⟨h1, h2⟩ | ⟨i, h1, h2, h3⟩
  · rcases h' with ⟨h4, h5⟩ | ⟨i', h4, h5, h6⟩
    · rw [h2, h5]
    · omega
  · rcases h' with ⟨h4, h5⟩ | ⟨i', h4, h5, h6⟩
    · omega
    · have a1 := h3 i' h5
      have a2 := h6 i h2
      rcases Nat.lt_trichotomy i i' with q | q | q
      · have := a2.2 q
        omega
      · rw [h1, h4, q]
      · have := a1.2 q
        omega
theorem yDone_few {b : Int → Int} {xs : List Int} {o : Int} {f : Nat} (h : yDone b xs o f) {p : Int} (hp : yFew xs.length (fun i => yPop (yForm (yFm b xs (xs.getD i 0) f))) p) : yFew xs.length (fun i => yNs b xs (xs.getD i 0)) p ∧ ∀ i : Nat, p = i → i < xs.length → yPop (yForm (yFm b xs (xs.getD i 0) f)) = yNs b xs (xs.getD i 0) := by
  obtain ⟨h1, h2⟩ := h
  have same : (∀ i : Nat, i < xs.length → yFm b xs (xs.getD i 0) f = yFm b xs (xs.getD i 0) 10) → yFew xs.length (fun i => yNs b xs (xs.getD i 0)) p ∧ ∀ i : Nat, p = i → i < xs.length → yPop (yForm (yFm b xs (xs.getD i 0) f)) = yNs b xs (xs.getD i 0) := fun q => by
    refine ⟨?_, fun i _ hi => by unfold yNs; rw [q i hi]⟩
    rcases hp with hp | ⟨i, p1, p2, p3⟩
    · exact .inl hp
    · refine .inr ⟨i, p1, p2, fun j hj => ?_⟩
      have := p3 j hj
      dsimp only at this
      rw [q i p2, q j hj] at this
      exact this
  rcases h2 with h2 | h2 | ⟨-, h3, ⟨i0, h4, h5⟩, h6⟩
  · exact same fun i _ => by rw [h2]
  · refine same fun i hi => ?_
    have e := yFm_keep (h2 i hi) (10 - f)
    rw [show f + (10 - f) = 10 by omega] at e
    exact e.symm
  · rcases hp with ⟨p1, p2⟩ | ⟨i, p1, p2, p3⟩
    · omega
    · have tr : ∀ j : Nat, j < xs.length → (yFm b xs (xs.getD j 0) f ≠ 10 ∧ yNs b xs (xs.getD j 0) = yPop (yForm (yFm b xs (xs.getD j 0) f)) ∧ yNs b xs (xs.getD j 0) ≤ yPop (yForm ((f : Int) - 1))) ∨ (yFm b xs (xs.getD j 0) f = 10 ∧ yPop (yForm ((f : Int) - 1)) < yNs b xs (xs.getD j 0)) := fun j hj => by
        have hf10 : f < 10 := by
          apply Classical.byContradiction
          intro hc
          have : f = 10 := by omega
          subst this
          exact absurd h6 (by decide)
        by_cases g : yFm b xs (xs.getD j 0) f = 10
        · refine .inr ⟨g, ?_⟩
          have e := yFm_next g (10 - f)
          rw [show f + (10 - f) = 10 by omega] at e
          unfold yNs
          rcases e with e | ⟨e1, e2⟩
          · rw [e, tPop_10]
            have := (tPop_in f (by omega)).2
            omega
          · have := tPop_mono f (by omega) (yFm b xs (xs.getD j 0) 10).toNat (by omega) (by omega)
            rw [show (((yFm b xs (xs.getD j 0) 10).toNat : Nat) : Int) = yFm b xs (xs.getD j 0) 10 by omega] at this
            omega
        · refine .inl ⟨g, ?_, ?_⟩
          · have e := yFm_keep g (10 - f)
            rw [show f + (10 - f) = 10 by omega] at e
            unfold yNs
            rw [e]
          · have e := yFm_keep g (10 - f)
            rw [show f + (10 - f) = 10 by omega] at e
            unfold yNs
            rw [e]
            rcases yFm_lt (b := b) (xs := xs) (v := xs.getD j 0) f with q | q
            · exact absurd q g
            · have := tPop_mono (yFm b xs (xs.getD j 0) f).toNat (by omega) (f - 1) (by omega) (by omega)
              rw [show (((yFm b xs (xs.getD j 0) f).toNat : Nat) : Int) = yFm b xs (xs.getD j 0) f by omega, show ((f - 1 : Nat) : Int) = (f : Int) - 1 by omega] at this
              exact this
      have hi10 : yFm b xs (xs.getD i 0) f ≠ 10 := fun q => by
        have a := (p3 i0 h4).1
        dsimp only at a
        rw [q, tPop_10] at a
        rcases tr i0 h4 with ⟨-, b1, b2⟩ | ⟨b1, -⟩
        · have := (tPop_in f (by omega)).2
          omega
        · exact h5 b1
      rcases tr i p2 with ⟨-, b1, b2⟩ | ⟨b1, -⟩
      · refine ⟨.inr ⟨i, p1, p2, fun j hj => ?_⟩, fun i' e1 e2 => ?_⟩
        · have a := p3 j hj
          dsimp only at a ⊢
          rcases tr j hj with ⟨-, c1, c2⟩ | ⟨c1, c2⟩
          · rw [b1, c1]
            exact a
          · omega
        · have : i' = i := by omega
          rw [this, b1]
      · exact absurd b1 hi10
section ZR
variable {L : Nat} {m : Nat → Int → Int} (D : Nat) {q R n : Nat} {b : Int → Int} {xs : List Int}
theorem yNd_zero {m : Nat → Int → Int} {q : Nat} : ∀ n, yMf m q n → yNd m q n = 0
  | 0, _ => rfl
  | n + 1, h => by
    unfold yNd
    rw [h n (Nat.lt_succ_self n), if_neg (by decide), yNd_zero n fun i hi => h i (by omega)]
theorem zk_89 (hn : yNm L n) (hq : yLs L q R) (hT : yTab m) (hm : yMl m q b xs) (hmf : yMf m q xs.length) (hl : xs.length ≤ R) (ho : yOkv b xs) (dn : n + 1 < q ∨ q + 3 < n) (hz : ∀ s : Int, 0 ≤ s → s < 3072 → m (n + 1) s = 0) (o : Int) : ∃ m', zmD zP (D + 4) 89 [zr n, zr q, zi o] (zW L m) = some (none, zW L m') ∧ yFr (q + 3) (q + 3) m m' ∧ ∃ f : Nat, yDone b xs o f ∧ ∀ i : Nat, i < xs.length → m' (q + 3) i = yFm b xs (xs.getD i 0) f := by
  have hq3 := hq.2.2.1
  have hR := hq.2.2.2
  have hn3 := hn.2.2.2
  suffices go : ∀ k f : Nat, f + k = 10 → ∀ M, yFr (q + 3) (q + 3) m M → (∀ i : Nat, i < xs.length → M (q + 3) i = yFm b xs (xs.getD i 0) f) → ∃ m', zmE (zmD zP (D+3)) zc_89 (5, [some (zr n), some (zr q), some (zi o), some (zi (yNd M q xs.length)), some (zi f)], [], zW L M) = some (none, zW L m') ∧ yFr (q + 3) (q + 3) m m' ∧ ∃ f : Nat, yDone b xs o f ∧ ∀ i : Nat, i < xs.length → m' (q + 3) i = yFm b xs (xs.getD i 0) f by
    have e := go 10 0 rfl m yFr_rfl fun i hi => hmf i hi
    rw [yNd_zero _ hmf] at e
    rw [zen_89, zb_89_0]
    exact e
  intro k
  induction k with
  | zero =>
    intro f hf M hF hM
    rw [zb_89_5, if_neg (by omega)]
    exact ⟨M, rfl, hF, f, ⟨by omega, .inl (by omega)⟩, hM⟩
  | succ k ih =>
    intro f hf M hF hM
    have hTM := yTab_fr hT hF (by omega)
    have hMm : yMl M q b xs := by
      unfold yMl
      rw [hF q (by omega), hF (q + 1) (by omega), hF (q + 2) (by omega)]
      exact hm
    have nle := yNd_le (m := M) (q := q) xs.length
    have go44 : ∃ m', zmE (zmD zP (D+3)) zc_89 (44, [some (zr n), some (zr q), some (zi o), some (zi (yNd M q xs.length)), some (zi f)], [], zW L M) = some (none, zW L m') ∧ yFr (q + 3) (q + 3) m m' ∧ ∃ f : Nat, yDone b xs o f ∧ ∀ i : Nat, i < xs.length → m' (q + 3) i = yFm b xs (xs.getD i 0) f := by
      obtain ⟨M', e1, e2, e3⟩ := zk_94 D hn hq hTM hMm hl ho dn (fun s s1 s2 => by rw [hF _ (by omega)]; exact hz s s1 s2) f (by omega)
      have nle' := yNd_le (m := M') (q := q) xs.length
      rw [zb_89_44, ync hn, e1, zbs, zmG_v, zb_89_52, w32_of (by omega) (by omega), w32_of (by omega) (by omega), show (yNd M q xs.length : Int) + ((yNd M' q xs.length : Int) - yNd M q xs.length) = yNd M' q xs.length by omega]
      have e := ih (f + 1) (by omega) M' (yFr_tr hF e2) (fun i hi => by
        rw [e3 i hi, hM i hi, yFm_succ]
        by_cases g : yFm b xs (xs.getD i 0) f = 10
        · rw [g, if_neg (show ¬ (10 : Int) ≠ 10 by decide)]
          by_cases g2 : yCn b xs f (xs.getD i 0) = 1
          · rw [if_pos ⟨rfl, g2⟩, if_pos g2]
          · rw [if_neg (fun q => g2 q.2), if_neg g2]
        · rw [if_neg (fun q => g q.1), if_pos g])
      rw [Int.natCast_succ] at e
      exact e
    rw [zb_89_5, if_pos (by omega), ylc hq, zk_90 (D + 2) hq, zbs, zmG_v, zb_89_17, hMm.1]
    by_cases g : (yNd M q xs.length : Int) < xs.length
    · rw [if_pos g]
      by_cases g2 : o = 0
      · rw [if_pos g2]
        exact go44
      · rw [if_neg g2]
        by_cases g3 : 0 < (yNd M q xs.length : Int)
        · obtain ⟨i, i1, i2⟩ := yNd_some xs.length (show 0 < yNd M q xs.length by omega)
          have hf0 : 0 < f := by
            apply Classical.byContradiction
            intro hc
            have : f = 0 := by omega
            subst this
            exact i2 (hM i i1)
          rw [if_pos g3, zk_91 (D + 1) hTM, zbs, zmG_v, zb_89_33, w32_of (by omega) (by omega), zk_91 (D + 1) hTM, zbs, zmG_v, zb_89_40]
          by_cases g4 : yPop (yForm ((f : Int) - 1)) < yPop (yForm f)
          · rw [if_pos g4]
            exact ⟨M, rfl, hF, f, ⟨by omega, .inr (.inr ⟨g2, hf0, ⟨i, i1, by rw [← hM i i1]; exact i2⟩, g4⟩)⟩, hM⟩
          · rw [if_neg g4]
            exact go44
        · rw [if_neg g3]
          exact go44
    · rw [if_neg g]
      refine ⟨M, rfl, hF, f, ⟨by omega, .inr (.inl fun i hi => ?_)⟩, hM⟩
      rw [← hM i hi]
      exact yNd_all xs.length (by omega) i hi
theorem zk_140 (hq : yLs L q R) (hT : yTab m) (n : Nat) (hn : m q 3 = n) (hl : n ≤ R) : ∃ p : Int, zmD zP (D + 3) 140 [zr q] (zW L m) = some (some (zi p), zW L m) ∧ yFew n (fun i => yPop (yForm (m (q + 3) i))) p := by
  have hR := hq.2.2.2
  rw [zen_140, zb_140_0]
  suffices go : ∀ k i : Nat, i + k = n → ∀ p : Int, yFew i (fun i => yPop (yForm (m (q + 3) i))) p → ∃ p' : Int, zmE (zmD zP (D+2)) zc_140 (4, [some (zr q), some (zi p), some (zi i)], [], zW L m) = some (some (zi p'), zW L m) ∧ yFew n (fun i => yPop (yForm (m (q + 3) i))) p' from go n 0 (by omega) (-1) (.inl ⟨rfl, rfl⟩)
  intro k
  induction k with
  | zero =>
    intro i hi p hp
    rw [zb_140_4, yli hq, zbs, if_neg (by omega)]
    rw [show i = n by omega] at hp
    exact ⟨p, rfl, hp⟩
  | succ k ih =>
    intro i hi p hp
    have take : yFew (i + 1) (fun i => yPop (yForm (m (q + 3) i))) i → ∃ p' : Int, zmE (zmD zP (D+2)) zc_140 (30, [some (zr q), some (zi p), some (zi i)], [], zW L m) = some (some (zi p'), zW L m) ∧ yFew n (fun i => yPop (yForm (m (q + 3) i))) p' := fun h => by
      rw [zb_140_30, zb_140_32, w32_of (by omega) (by omega)]
      have e := ih (i + 1) (by omega) i h
      rw [Int.natCast_succ] at e
      exact e
    rw [zb_140_4, yli hq, zbs, if_pos (by omega)]
    rcases hp with ⟨p1, p2⟩ | ⟨j, p1, p2, p3⟩
    · rw [if_pos p2]
      exact take (.inr ⟨i, rfl, Nat.lt_succ_self i, fun j hj => by
        have : j = i := by omega
        rw [this]
        exact ⟨Int.le_refl _, fun h => absurd h (Nat.lt_irrefl i)⟩⟩)
    · subst p1
      rw [if_neg (by omega), ylc hq, zk_117 D hq (by omega) hT, zbs, zmG_v, zb_140_22, ylc hq, zk_117 D hq (by omega) hT, zbs, zmG_v, zb_140_27, if_pos (show 0 ≤ (i : Int) ∧ (i : Int) < m q 3 by omega), if_pos (show 0 ≤ (j : Int) ∧ (j : Int) < m q 3 by omega)]
      by_cases g : yPop (yForm (m (q + 3) i)) < yPop (yForm (m (q + 3) j))
      · rw [if_pos g]
        refine take (.inr ⟨i, rfl, Nat.lt_succ_self i, fun j' hj => ?_⟩)
        dsimp only
        by_cases hj2 : j' = i
        · rw [hj2]
          exact ⟨Int.le_refl _, fun h => absurd h (Nat.lt_irrefl i)⟩
        · have := p3 j' (by omega)
          dsimp only at this
          omega
      · rw [if_neg g, zb_140_32, w32_of (by omega) (by omega)]
        have e := ih (i + 1) (by omega) j (.inr ⟨j, rfl, by omega, fun j' hj => by
          dsimp only
          by_cases hj2 : j' = i
          · rw [hj2]
            omega
          · exact p3 j' (by omega)⟩)
        rw [Int.natCast_succ] at e
        exact e
theorem zk_118 (hq : yLs L q R) (hT : yTab m) (hX : yTxt m) (hm : yMl m q b xs) (hl : xs.length ≤ R) (ho : yOkv b xs) (i : Nat) (hi : i < xs.length) (c : Int) : zmD zP (D + 7) 118 [zr q, zi i, zi c] (zW L m) = some (some (zi (yGet (ySay (yForm (m (q + 3) i)) (b (xs.getD i 0 / 64) % 8 - 1) (xs.getD i 0)) c)), zW L m) := by
  obtain ⟨o1, o2, o3⟩ := yOkv_get ho hi
  obtain ⟨e1, e2⟩ := hm.2 i hi
  have hl' : m q 3 ≤ R := by rw [hm.1]; omega
  have hin : 0 ≤ (i : Int) ∧ (i : Int) < m q 3 := by rw [hm.1]; omega
  rw [zen_118, zb_118_0, ylc hq, zk_98 (D + 5) hq hl', if_pos hin, zbs, zmG_v, zb_118_5, zk_92 (D + 5) hT, zbs, zmG_v, zb_118_8, ylc hq, zk_96 (D + 5) hq hl', if_pos hin, zbs, zmG_v, zb_118_13, ylc hq, zk_97 (D + 5) hq hl', if_pos hin, zbs, zmG_v, zb_118_18, e1, e2, zk_119 D hX _ _ _ _ ⟨by omega, by omega⟩ o1, zbs, zmG_v, zb_118_22]
end ZR
