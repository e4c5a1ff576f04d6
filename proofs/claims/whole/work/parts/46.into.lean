/-! listInto of the class -/
theorem yFilt_take {xs : List Int} {p : Int → Bool} {v : Int} {R : Nat} (h : p v = true) : (((xs ++ [v]).filter p).take R) = if ((xs.filter p).take R).length < R then (xs.filter p).take R ++ [v] else (xs.filter p).take R := by
  rw [List.filter_append, List.length_take]
  have e : [v].filter p = [v] := by
    rw [List.filter_cons, if_pos h]
    rfl
  rw [e]
  by_cases g : (xs.filter p).length < R
  · rw [if_pos (by omega), List.take_of_length_le (by rw [List.length_append]; show _ + 1 ≤ _; omega), List.take_of_length_le (by omega)]
  · rw [if_neg (by omega), List.take_append_of_le_length (by omega)]
theorem yFilt_skip {xs : List Int} {p : Int → Bool} {v : Int} (h : ¬ p v = true) : (xs ++ [v]).filter p = xs.filter p := by
  rw [List.filter_append]
  have e : [v].filter p = [] := by
    rw [List.filter_cons, if_neg h]
    rfl
  rw [e, List.append_nil]
theorem yMvs_one {b : Int → Int} {c : Int} {i j : Nat} (hj : j < 64) (h : yLaw b c i j) : yMvs b c (64 * i + (j + 1)) = yMvs b c (64 * i + j) ++ [((64 * i + j : Nat) : Int)] := by
  rw [← Nat.add_assoc, yMvs_succ, show ((64 * i + j : Nat) : Int) / 64 = i by omega, show ((64 * i + j : Nat) : Int) % 64 = j by omega, if_pos (yT_pos h)]
theorem yMvs_gap {b : Int → Int} {c : Int} {i : Nat} : ∀ k j : Nat, j + k ≤ 64 → (∀ s : Nat, j ≤ s → s < j + k → ¬ yLaw b c i s) → yMvs b c (64 * i + (j + k)) = yMvs b c (64 * i + j)
  | 0, j, _, _ => rfl
  | k + 1, j, hj, h => by
    have e := yMvs_gap k j (by omega) fun s h1 h2 => h s h1 (by omega)
    rw [← Nat.add_assoc, ← Nat.add_assoc, yMvs_succ, show ((64 * i + j + k : Nat) : Int) / 64 = i by omega, show ((64 * i + j + k : Nat) : Int) % 64 = ((j + k : Nat) : Int) by omega, if_neg (by rw [yT_neg (h (j + k) (by omega) (by omega))]; decide), Nat.add_assoc, e]
theorem yRow_none {x : Int} {P : Nat → Prop} (h : yRow x P) (h2 : ∀ s : Nat, s < 64 → ¬ P s) : x = 0 := by
  obtain ⟨⟨y, rfl⟩, h⟩ := h
  exact yExt2 (x := y) (y := 0) rfl rfl fun s hs => by
    rw [show yBit (0 : Int) s = false from yBit_zero]
    cases hb : yBit y.toInt s
    · rfl
    · exact absurd ((h s hs).mp hb) (h2 s hs)
theorem yRow_low {x : Int} {P : Nat → Prop} (h : yRow x P) (hx : x ≠ 0) : ∃ k, k < 64 ∧ P k ∧ (∀ j, j < k → ¬ P j) ∧ yCnt (w64 (z_andl x (w64 (-x)) - 1)) = k ∧ yRow (z_andl x (w64 (x - 1))) (fun s => P s ∧ s ≠ k) := by
  have ex : ∃ k, k < 64 ∧ P k := by
    apply Classical.byContradiction
    intro hn
    exact hx (yRow_none h fun s hs hp => hn ⟨s, hs, hp⟩)
  have low : ∃ k, k < 64 ∧ P k ∧ ∀ j, j < k → ¬ P j := by
    obtain ⟨k, hk⟩ := ex
    have : ∀ n k : Nat, k ≤ n → k < 64 → P k → ∃ k, k < 64 ∧ P k ∧ ∀ j, j < k → ¬ P j := by
      intro n
      induction n with
      | zero =>
        intro k h0 h1 h2
        exact ⟨k, h1, h2, fun j hj => by omega⟩
      | succ n ih =>
        intro k h0 h1 h2
        by_cases g : ∃ j, j < k ∧ P j
        · obtain ⟨j, j1, j2⟩ := g
          exact ih j (by omega) (by omega) j2
        · exact ⟨k, h1, h2, fun j hj hp => g ⟨j, hj, hp⟩⟩
    exact this k k (Nat.le_refl k) hk.1 hk.2
  obtain ⟨k, k1, k2, k3⟩ := low
  have hl : yLow x k := ⟨k1, (h.2 k k1).mpr k2, fun j hj => by
    cases hb : yBit x j
    · rfl
    · exact absurd ((h.2 j (by omega)).mp hb) (k3 j hj)⟩
  refine ⟨k, k1, k2, k3, by rw [yLow_and hl, yCnt_low k k1], ⟨_, rfl⟩, fun s hs => ?_⟩
  rw [yLow_clear hl s hs, Bool.and_eq_true, h.2 s hs]
  by_cases g : s = k
  · rw [g, beq_self_eq_true]
    exact ⟨fun q => absurd q.2 (by decide), fun q => absurd rfl q.2⟩
  · rw [beq_false_of_ne g]
    exact ⟨fun q => ⟨q.1, g⟩, fun q => ⟨q.1, rfl⟩⟩
noncomputable def yFc (m : Nat → Int → Int) (z : Nat) (b : Int → Int) : Int → Bool := fun v => decide (yT (yFitC m z (b (v / 64) % 8 - 1) v) = 1)
/-- a board of the class that is whole: tables, men, turn, kings -/
def yGd (m : Nat → Int → Int) (a e : Nat) : Prop := yTab m ∧ zOkC (m e) ∧ (m a 1 = 0 ∨ m a 1 = 1) ∧ yKg (m e) (if m a 1 = 0 then 6 else -6) (if m a 1 = 0 then m a 2 else m a 3)
theorem yGd_fr {m m' : Nat → Int → Int} {a e lo hi : Nat} (h : yGd m a e) (hf : yFr lo hi m m') (ha : a < lo ∨ hi < a) (he : e < lo ∨ hi < e) (hi2 : hi < 1000) : yGd m' a e := by
  have q : ∀ j i, m' (zXB + j) i = m (zXB + j) i := fun j i => by rw [hf _ (.inr (by unfold zXB; omega))]
  unfold yGd yTab
  rw [hf a ha, hf e he]
  refine ⟨⟨fun i => ?_, fun i => ?_, fun i => ?_, fun i => ?_, fun i => ?_⟩, h.2⟩ <;> rw [q]
  · exact h.1.1 i
  · exact h.1.2.1 i
  · exact h.1.2.2.1 i
  · exact h.1.2.2.2.1 i
  · exact h.1.2.2.2.2 i
section ZR
variable {L : Nat} {m : Nat → Int → Int} (D : Nat)
theorem zk_76 {q R : Nat} (hq : yLs L q R) {d : Nat} : zmD zP (d + 1) 76 [zr q] (zW L m) = some (none, zW L (zup m q 3 0)) := by
  rw [zen_76, zb_76_0, ylp hq, zbs]
theorem zk_75 {a e q R z : Nat} (h : yBd L a e) (hg : yGd m a e) (hq : yLs L q R) (hz : zSH L z = (4, 0)) (da : a < q ∨ q + 3 < a) (de : e < q ∨ q + 3 < e) (dz : z < q ∨ q + 3 < z) : ∃ m', zmD zP (D + 4) 75 [zr a, zr q, zr z] (zW L m) = some (none, zW L m') ∧ yFr q (q + 3) m m' ∧ yMl m' q (yB (m e)) (((yMv (yB (m e)) (8 * m a 1)).filter (yFc m z (yB (m e)))).take R) ∧ yMf m' q (((yMv (yB (m e)) (8 * m a 1)).filter (yFc m z (yB (m e)))).take R).length := by
  have hq3 : q + 3 < 98 := hq.2.2.1
  obtain ⟨hT, hB, ht, hk⟩ := hg
  have hGf : ∀ M, yFr q (q + 3) m M → yGd M a e := fun M hF => yGd_fr ⟨hT, hB, ht, hk⟩ hF da de (by omega)
  have hbe : ∀ s, yB (m e) s = yEnc (m e s) := fun _ => rfl
  generalize hb : yB (m e) = b at *
  generalize htt : m a 1 = t at *
  generalize hown : (if t = 0 then (1 : Int) else -1) = own
  have ho : own = 1 ∨ own = -1 := by rw [← hown]; split <;> omega
  generalize hkk : (if t = 0 then m a 2 else m a 3) = k at *
  generalize hp : yFc m z b = p at *
  have hpv : ∀ v, p v = decide (yT (yFitC m z (b (v / 64) % 8 - 1) v) = 1) := fun v => by rw [← hp]; rfl
  have hkr : k ≠ -1 → 0 ≤ k ∧ k < 64 := fun g => by
    rcases hk with ⟨q, -⟩ | ⟨q, q2, -⟩
    · exact absurd q g
    · exact ⟨q, q2⟩
  have inner : ∀ i : Nat, i < 64 → 0 < m e i * own → ∀ fr calm : Int, (fr = 0 ∨ fr = 1) → (fr = 1 → ∀ s : Nat, s < 64 → yMay b (8 * t) i s → ¬ yAtt (yPut b i s) (8 * t)) → (fr = 0 → k ≠ -1) → ∀ n c : Nat, c ≤ 64 → 64 ≤ c + n → ∀ x o12 o13 M, ∀ tr : Nat, tr ≤ c → yRow x (fun s => c ≤ s ∧ yMay b (8 * t) i s) → yFr q (q + 3) m M → yMl M q b (((yMvs b (8 * t) (64 * i + c)).filter p).take R) → yMf M q (((yMvs b (8 * t) (64 * i + c)).filter p).take R).length → ∃ M' o8 o9 o10 o11 o12' o13', zmE (zmD zP (D+3)) zc_75 (134, [some (zr a), some (zr q), some (zr z), some (zi own), some (zi k), some (zi calm), some (zi i), some (zi (m e i * own - 1)), some (zi fr), some (zl x), none, some (zi tr), o12, o13], [], zW L M) = zmE (zmD zP (D+3)) zc_75 (223, [some (zr a), some (zr q), some (zr z), some (zi own), some (zi k), some (zi calm), some (zi i), some (zi (m e i * own - 1)), o8, o9, o10, o11, o12', o13'], [], zW L M') ∧ yFr q (q + 3) m M' ∧ yMl M' q b (((yMvs b (8 * t) (64 * i + 64)).filter p).take R) ∧ yMf M' q (((yMvs b (8 * t) (64 * i + 64)).filter p).take R).length := by
    intro i hi hpos fr calm hfr hfree hfr0 n
    have hme := hB i (by omega) (by omega)
    have hk8 : b i % 8 = m e i * own := by rw [hbe]; exact (yEnc_k ho hme hpos).1
    have hle : m e i * own ≤ 6 := by rcases ho with q | q <;> rw [q] <;> omega
    induction n with
    | zero =>
      intro c hc1 hc2 x o12 o13 M tr htr hx hF hM hMf
      have hc : c = 64 := by omega
      subst hc
      have hx0 : x = 0 := yRow_none hx fun s hs hp => by omega
      subst hx0
      refine ⟨M, some (zi fr), some (zl 0), none, some (zi tr), o12, o13, ?_, hF, hM, hMf⟩
      rw [zb_75_134]
      split
      · rw [if_pos (by decide)]
      · rfl
    | succ n ih =>
      intro c hc1 hc2 x o12 o13 M tr htr hx hF hM hMf
      by_cases hx0 : x = 0
      · have hno : ∀ s : Nat, c ≤ s → s < c + (64 - c) → ¬ yLaw b (8 * t) i s := fun s h1 h2 hl => by
          have := (hx.2 s (by omega)).mpr ⟨h1, hl.1⟩
          rw [hx0, yBit_zero] at this
          exact absurd this (by decide)
        have eg := yMvs_gap (64 - c) c (by omega) hno
        rw [show c + (64 - c) = 64 by omega] at eg
        rw [eg]
        subst hx0
        refine ⟨M, some (zi fr), some (zl 0), none, some (zi tr), o12, o13, ?_, hF, hM, hMf⟩
        rw [zb_75_134]
        split
        · rw [if_pos (by decide)]
        · rfl
      · obtain ⟨kk, k1, ⟨k2, k3⟩, k4, k5, k6⟩ := yRow_low hx hx0
        have hno : ∀ s : Nat, c ≤ s → s < c + (kk - c) → ¬ yLaw b (8 * t) i s := fun s h1 h2 hl => k4 s (by omega) ⟨h1, hl.1⟩
        have eg := yMvs_gap (kk - c) c (by omega) hno
        rw [show c + (kk - c) = kk by omega] at eg
        rw [← eg] at hM hMf
        have hx' : yRow (z_andl x (w64 (x - 1))) (fun s => kk + 1 ≤ s ∧ yMay b (8 * t) i s) := yRow_c k6 fun s hs => by
          constructor
          · rintro ⟨⟨h1, h2⟩, h3⟩
            refine ⟨?_, h2⟩
            apply Classical.byContradiction
            intro h4
            exact k4 s (by omega) ⟨h1, h2⟩
          · rintro ⟨h1, h2⟩
            exact ⟨⟨by omega, h2⟩, by omega⟩
        have nx : ∀ M2, yFr q (q + 3) m M2 → yMl M2 q b (((yMvs b (8 * t) (64 * i + (kk + 1))).filter p).take R) → yMf M2 q (((yMvs b (8 * t) (64 * i + (kk + 1))).filter p).take R).length → ∃ M' o8 o9 o10 o11 o12' o13', zmE (zmD zP (D+3)) zc_75 (217, [some (zr a), some (zr q), some (zr z), some (zi own), some (zi k), some (zi calm), some (zi i), some (zi (m e i * own - 1)), some (zi fr), some (zl (z_andl x (w64 (x - 1)))), none, some (zi tr), some (zi kk), some (zi ((i : Int) * 64 + kk))], [], zW L M2) = zmE (zmD zP (D+3)) zc_75 (223, [some (zr a), some (zr q), some (zr z), some (zi own), some (zi k), some (zi calm), some (zi i), some (zi (m e i * own - 1)), o8, o9, o10, o11, o12', o13'], [], zW L M') ∧ yFr q (q + 3) m M' ∧ yMl M' q b (((yMvs b (8 * t) (64 * i + 64)).filter p).take R) ∧ yMf M' q (((yMvs b (8 * t) (64 * i + 64)).filter p).take R).length := fun M2 f1 f2 f3 => by
          rw [zb_75_217, w32_of (by omega) (by omega)]
          have q := ih (kk + 1) (by omega) (by omega) _ (some (zi kk)) (some (zi ((i : Int) * 64 + kk))) M2 (tr + 1) (by omega) hx' f1 f2 f3
          rw [Int.natCast_succ] at q
          exact q
        have hMz : M z = m z := hF z dz
        have hMe : M e = m e := hF e de
        have hMa : M a = m a := hF a da
        have hGM : yGd M a e := hGf _ hF
        have hcmp : ¬ (if 0 < x then (1 : Int) else if x = 0 then 0 else -1) = 0 := by
          rw [if_neg hx0]
          split <;> decide
        have hfit : yFitC M z (m e i * own - 1) ((i : Int) * 64 + kk) = yFitC m z (m e i * own - 1) ((i : Int) * 64 + kk) := by
          unfold yFitC
          rw [hMz]
        have hp2 : p ((i : Int) * 64 + kk) = true ↔ yFitC m z (m e i * own - 1) ((i : Int) * 64 + kk) := by
          rw [hpv, decide_eq_true_iff, show ((i : Int) * 64 + kk) / 64 = i by omega, hk8]
          constructor
          · intro h
            apply Classical.byContradiction
            intro h2
            rw [yT_neg h2] at h
            exact absurd h (by decide)
          · exact yT_pos
        have hv : ((64 * i + kk : Nat) : Int) = (i : Int) * 64 + kk := by omega
        rw [zb_75_134, if_pos (by omega), if_neg hcmp, zk_84, k5, zbs, zmG_v, zb_75_159, zb_75_170, w32_of (z := (i : Int) * 64) (by omega) (by omega), w32_of (z := (i : Int) * 64 + kk) (by omega) (by omega), zb_75_180, zw_cv (congrArg Prod.fst hz), zk_85 (D + 1) hz _ _ ⟨by omega, by omega⟩ ⟨by omega, by omega⟩, zbs, zmG_v, zb_75_188, hfit]
        by_cases g : yFitC m z (m e i * own - 1) ((i : Int) * 64 + kk)
        · have hpt := hp2.mpr g
          rw [yT_pos g, if_neg (by decide)]
          have add : ∀ (hl : yLaw b (8 * t) i kk), ∃ M' o8 o9 o10 o11 o12' o13', zmE (zmD zP (D+3)) zc_75 (209, [some (zr a), some (zr q), some (zr z), some (zi own), some (zi k), some (zi calm), some (zi i), some (zi (m e i * own - 1)), some (zi fr), some (zl (z_andl x (w64 (x - 1)))), none, some (zi tr), some (zi kk), some (zi ((i : Int) * 64 + kk))], [], zW L M) = zmE (zmD zP (D+3)) zc_75 (223, [some (zr a), some (zr q), some (zr z), some (zi own), some (zi k), some (zi calm), some (zi i), some (zi (m e i * own - 1)), o8, o9, o10, o11, o12', o13'], [], zW L M') ∧ yFr q (q + 3) m M' ∧ yMl M' q b (((yMvs b (8 * t) (64 * i + 64)).filter p).take R) ∧ yMf M' q (((yMvs b (8 * t) (64 * i + 64)).filter p).take R).length := fun hl => by
            have e2 := yFilt_take (xs := yMvs b (8 * t) (64 * i + kk)) (R := R) hpt
            rw [← hv, ← yMvs_one k1 hl, hv] at e2
            obtain ⟨M2, q1, q2, q3, q4⟩ := zk_88 (D + 2) hq hM hMf (by rw [List.length_take]; omega) ((i : Int) * 64 + kk) (m e i * own - 1) (by rw [show ((i : Int) * 64 + kk) / 64 = i by omega, hk8])
            rw [zb_75_209, ylc hq, q1, zbs, zmG_n]
            rw [← e2] at q3 q4
            exact nx M2 (yFr_tr hF q2) q3 q4
          rcases hfr with hfr | hfr
          · rw [if_pos hfr, ybc h, zk_87 D h hGM.1 hGM.2.1 i kk k ⟨by omega, by omega⟩ ⟨by omega, by omega⟩ (hkr (hfr0 hfr)) (fun q => by rw [q] at k3; exact k3.2.1 k3.1), zbs, zmG_v, zb_75_206, hMe, hMa, htt]
            rw [← hb] at k3
            have hs := (ySafe_iff hB ht ⟨by omega, by omega⟩ ⟨by omega, by omega⟩ hk k3).1 (hfr0 hfr)
            rw [hb] at hs k3
            by_cases g2 : yAtt (yPut b i kk) (8 * t)
            · rw [yT_neg (fun q => (hs.mp q) g2), if_pos rfl]
              have e3 := yMvs_gap (b := b) (c := 8 * t) (i := i) 1 kk (by omega) fun s s1 s2 hl => by
                have : s = kk := by omega
                rw [this] at hl
                exact hl.2 g2
              rw [← e3] at hM hMf
              exact nx M hF hM hMf
            · rw [yT_pos (hs.mpr g2), if_neg (by decide)]
              exact add ⟨k3, g2⟩
          · rw [if_neg (by omega)]
            exact add ⟨k3, hfree hfr kk k1 k3⟩
        · rw [yT_neg g, if_pos rfl]
          have hpf : ¬ p ((i : Int) * 64 + kk) = true := fun q => g (hp2.mp q)
          have e3 : (yMvs b (8 * t) (64 * i + (kk + 1))).filter p = (yMvs b (8 * t) (64 * i + kk)).filter p := by
            by_cases hl : yLaw b (8 * t) i kk
            · rw [yMvs_one k1 hl, hv, yFilt_skip hpf]
            · rw [yMvs_gap 1 kk (by omega) fun s s1 s2 hl2 => by
                have : s = kk := by omega
                rw [this] at hl2
                exact hl hl2]
          rw [← e3] at hM hMf
          exact nx M hF hM hMf
  have outer : ∀ calm : Int, (calm = 0 ∨ calm = 1) → (calm = 1 → k ≠ -1 → ¬ yStruck (m e) t k) → ∀ n i : Nat, i + n = 64 → ∀ o7 o8 o9 o10 o11 o12 o13 M, yFr q (q + 3) m M → yMl M q b (((yMvs b (8 * t) (64 * i)).filter p).take R) → yMf M q (((yMvs b (8 * t) (64 * i)).filter p).take R).length → ∃ M', zmE (zmD zP (D+3)) zc_75 (62, [some (zr a), some (zr q), some (zr z), some (zi own), some (zi k), some (zi calm), some (zi i), o7, o8, o9, o10, o11, o12, o13], [], zW L M) = some (none, zW L M') ∧ yFr q (q + 3) m M' ∧ yMl M' q b (((yMv b (8 * t)).filter p).take R) ∧ yMf M' q (((yMv b (8 * t)).filter p).take R).length := by
    intro calm hcalm hcalm2 n
    induction n with
    | zero =>
      intro i hi o7 o8 o9 o10 o11 o12 o13 M hF hM hMf
      have : i = 64 := by omega
      subst this
      rw [zb_75_62, if_neg (by omega)]
      exact ⟨M, rfl, hF, hM, hMf⟩
    | succ n ih =>
      intro i hi o7 o8 o9 o10 o11 o12 o13 M hF hM hMf
      have hMe : M e = m e := hF e de
      have hme := hB i (by omega) (by omega)
      have hin : -6 ≤ m e i * own ∧ m e i * own ≤ 6 := by rcases ho with q | q <;> rw [q] <;> omega
      have nx : ∀ M2 o8 o9 o10 o11 o12 o13, yFr q (q + 3) m M2 → yMl M2 q b (((yMvs b (8 * t) (64 * i + 64)).filter p).take R) → yMf M2 q (((yMvs b (8 * t) (64 * i + 64)).filter p).take R).length → ∃ M', zmE (zmD zP (D+3)) zc_75 (223, [some (zr a), some (zr q), some (zr z), some (zi own), some (zi k), some (zi calm), some (zi i), some (zi (m e i * own - 1)), o8, o9, o10, o11, o12, o13], [], zW L M2) = some (none, zW L M') ∧ yFr q (q + 3) m M' ∧ yMl M' q b (((yMv b (8 * t)).filter p).take R) ∧ yMf M' q (((yMv b (8 * t)).filter p).take R).length := fun M2 o8 o9 o10 o11 o12 o13 f1 f2 f3 => by
        rw [zb_75_223, w32_of (by omega) (by omega)]
        have q := ih (i + 1) (by omega) (some (zi (m e i * own - 1))) o8 o9 o10 o11 o12 o13 M2 f1 f2 f3
        rw [Int.natCast_succ] at q
        exact q
      rw [zb_75_62, if_pos (by omega), ybr h, zbs, yba h (by omega) (by omega), zbs, hMe, w32_of (z := m e i * own) (by omega) (by omega), w32_of (by omega) (by omega), zb_75_82]
      have hco := yEnc_o ht hme
      rw [hown, ← hbe] at hco
      by_cases g : m e i * own - 1 < 0
      · rw [if_pos g]
        have eg := yMvs_skip (b := b) (c := 8 * t) i (fun q => by have := hco.mp q; omega) 64 (Nat.le_refl 64)
        rw [← eg] at hM hMf
        exact nx M _ _ _ _ _ _ hF hM hMf
      · rw [if_neg g]
        have hGM : yGd M a e := hGf _ hF
        have go : ∀ fr : Int, (fr = 0 ∨ fr = 1) → (fr = 1 → ∀ s : Nat, s < 64 → yMay b (8 * t) i s → ¬ yAtt (yPut b i s) (8 * t)) → (fr = 0 → k ≠ -1) → ∃ M', zmE (zmD zP (D+3)) zc_75 (116, [some (zr a), some (zr q), some (zr z), some (zi own), some (zi k), some (zi calm), some (zi i), some (zi (m e i * own - 1)), o8, o9, o10, o11, o12, o13], [zi fr], zW L M) = some (none, zW L M') ∧ yFr q (q + 3) m M' ∧ yMl M' q b (((yMv b (8 * t)).filter p).take R) ∧ yMf M' q (((yMv b (8 * t)).filter p).take R).length := fun fr f1 f2 f3 => by
          obtain ⟨x, x1, x2⟩ := zk_80 (D + 1) h hGM.1 hGM.2.1 i own (m e i * own) ⟨by omega, by omega⟩ ho ⟨by omega, by omega⟩
          rw [hMe] at x2
          have hx : yRow x (fun s => 0 ≤ s ∧ yMay b (8 * t) i s) := yRow_c x2 fun s hs => by
            have q := yTarg_iff hB ht (f := (i : Int)) (s := (s : Int)) ⟨by omega, by omega⟩ ⟨by omega, by omega⟩ (by rw [hown]; omega)
            rw [hown, hb] at q
            try dsimp only
            rw [q]
            exact ⟨fun h => ⟨Nat.zero_le s, h⟩, fun h => h.2⟩
          rw [zb_75_116, w32_of (z := m e i * own - 1 + 1) (by omega) (by omega), show m e i * own - 1 + 1 = m e i * own by omega, ybc h, x1, zbs, zmG_v, zb_75_129]
          obtain ⟨M', p8, p9, p10, p11, p12, p13, r1, r2, r3, r4⟩ := inner i (by omega) (by omega) fr calm f1 f2 f3 64 0 (by omega) (by omega) x o12 o13 M 0 (Nat.le_refl 0) hx hF hM hMf
          rw [show ((0 : Nat) : Int) = 0 from rfl] at r1
          rw [r1]
          exact nx M' _ _ _ _ _ _ r2 r3 r4
        have yes : (k = -1 ∨ k ≠ -1 ∧ calm = 1 ∧ ¬ ((i : Int) % 8 = k % 8 ∨ (i : Int) / 8 = k / 8 ∨ (i : Int) % 8 - k % 8 = (i : Int) / 8 - k / 8 ∨ (i : Int) % 8 - k % 8 = -((i : Int) / 8 - k / 8))) → ∀ s : Nat, s < 64 → yMay b (8 * t) i s → ¬ yAtt (yPut b i s) (8 * t) := fun q s hs hm => by
          rw [← hb] at hm ⊢
          obtain ⟨-, s2, s3⟩ := ySafe_iff hB ht (f := (i : Int)) (s := (s : Int)) ⟨by omega, by omega⟩ ⟨by omega, by omega⟩ hk hm
          rcases q with q | ⟨q, q2, q3⟩
          · exact s2 q
          · exact s3 q (hcalm2 q2 q) q3
        by_cases g2 : k = -1
        · rw [if_pos g2, zb_75_111]
          exact go 1 (.inr rfl) (fun _ => yes (.inl g2)) (fun q => absurd q (by decide))
        · rw [if_neg g2]
          rcases hcalm with hc | hc
          · rw [if_pos hc, zb_75_115]
            exact go 0 (.inl rfl) (fun q => absurd q (by decide)) (fun _ => g2)
          · rw [if_neg (by omega), zk_79 (D + 2) _ _ ⟨by omega, by omega⟩ (hkr g2), zbs, zmG_v, zb_75_108]
            by_cases g3 : ((i : Int) % 8 = k % 8 ∨ (i : Int) / 8 = k / 8 ∨ (i : Int) % 8 - k % 8 = (i : Int) / 8 - k / 8 ∨ (i : Int) % 8 - k % 8 = -((i : Int) / 8 - k / 8))
            · rw [yT_pos g3, if_neg (by decide), zb_75_115]
              exact go 0 (.inl rfl) (fun q => absurd q (by decide)) (fun _ => g2)
            · rw [yT_neg g3, if_pos rfl, zb_75_111]
              exact go 1 (.inr rfl) (fun _ => yes (.inr ⟨g2, hc, g3⟩)) (fun q => absurd q (by decide))
  have hF0 : yFr q (q + 3) m (zup m q 3 0) := fun x hx => by
    funext j
    rw [zup_ne (by omega)]
  have start : ∀ calm : Int, (calm = 0 ∨ calm = 1) → (calm = 1 → k ≠ -1 → ¬ yStruck (m e) t k) → ∃ M', zmE (zmD zP (D+3)) zc_75 (57, [some (zr a), some (zr q), some (zr z), some (zi own), some (zi k), none, none, none, none, none, none, none, none, none], [zi calm], zW L (zup m q 3 0)) = some (none, zW L M') ∧ yFr q (q + 3) m M' ∧ yMl M' q b (((yMv b (8 * t)).filter p).take R) ∧ yMf M' q (((yMv b (8 * t)).filter p).take R).length := fun calm c1 c2 => by
    rw [zb_75_57]
    have e0 : ((yMvs b (8 * t) (64 * 0)).filter p).take R = [] := by
      show (([] : List Int).filter p).take R = []
      rw [List.filter_nil, List.take_nil]
    refine outer calm c1 c2 64 0 rfl none none none none none none none (zup m q 3 0) hF0 ?_ ?_
    · rw [e0]
      refine ⟨by rw [zup_self]; rfl, fun i hi => ?_⟩
      exact absurd hi (Nat.not_lt_zero i)
    · rw [e0]
      intro i hi
      exact absurd hi (Nat.not_lt_zero i)
  have ea : zup m q 3 0 a = m a := hF0 a da
  have e35 : zmD zP (D + 4) 75 [zr a, zr q, zr z] (zW L m) = zmE (zmD zP (D+3)) zc_75 (35, [some (zr a), some (zr q), some (zr z), some (zi own), none, none, none, none, none, none, none, none, none, none], [zi k], zW L (zup m q 3 0)) := by
    rw [zen_75, zb_75_0, ylc hq, zk_76 hq, zbs, zmG_n, zb_75_4, ybi h, zbs, ea, htt]
    by_cases g : t = 0
    · rw [if_pos g] at hown hkk ⊢
      rw [zb_75_16, ybi h, zbs, ea, htt, if_pos g, ybi h, zbs, ea, hown, hkk]
    · rw [if_neg g] at hown hkk ⊢
      rw [zb_75_16, ybi h, zbs, ea, htt, if_neg g, ybi h, zbs, ea, hown, hkk]
  rw [e35, zb_75_35]
  by_cases g : k = -1
  · rw [if_pos g, zb_75_52]
    exact start 1 (.inr rfl) (fun _ q => absurd g q)
  · have hG0 := hGf _ hF0
    rw [if_neg g, ybc h, zk_77 (D + 1) h hG0.1 hG0.2.1 k (hkr g), zbs, zmG_v, zb_75_49, ea, htt, hF0 e de]
    by_cases g2 : yStruck (m e) t k
    · rw [yT_pos g2, if_neg (by decide)]
      exact start 0 (.inl rfl) (fun q => absurd q (by decide))
    · rw [yT_neg g2, if_pos rfl, zb_75_52]
      exact start 1 (.inr rfl) (fun _ _ => g2)
end ZR
