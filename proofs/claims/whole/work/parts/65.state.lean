/-! a move made on a board of the class; the state of both -/
theorem yCrC_k {v t u : Int} (hu : u = 6 ∨ u = -6) (hv : -6 ≤ v ∧ v ≤ 6) : yCrC v t = u ↔ v = u := by
  unfold yCrC
  rcases hu with e | e <;> subst e <;> (repeat (split)) <;> omega
theorem yKg_mv {b : Int → Int} {f t u k : Int} (hB : zOkC b) (hf : 0 ≤ f ∧ f < 64) (ht : 0 ≤ t ∧ t < 64) (hne : f ≠ t) (hu : u = 6 ∨ u = -6) (h : yKg b u k) : yKg (yPutC b f t) u (if b f = u then t else if t = k then -1 else k) := by
  have hc := yCrC_k (t := t) hu (hB f hf.1 hf.2)
  have hz : (0 : Int) ≠ u := by omega
  unfold yPutC
  by_cases g : b f = u
  · rw [if_pos g]
    have hk : k = f := by
      rcases h with ⟨-, h2⟩ | ⟨h1, h2, h3, h4⟩
      · exact absurd g (h2 f hf.1 hf.2)
      · exact (h4 f hf.1 hf.2 g).symm
    subst hk
    refine .inr ⟨ht.1, ht.2, ?_, fun s s1 s2 h5 => ?_⟩
    · dsimp only
      rw [if_neg hne.symm, if_pos rfl]
      exact hc.mpr g
    · dsimp only at h5
      split at h5
      · exact absurd h5 hz
      · split at h5
        · assumption
        · rename_i g1 g2
          rcases h with ⟨h1, -⟩ | ⟨h1, h2, h3, h4⟩
          · omega
          · exact absurd (h4 s s1 s2 h5) g1
  · rw [if_neg g]
    by_cases g2 : t = k
    · rw [if_pos g2]
      refine .inl ⟨rfl, fun s s1 s2 => ?_⟩
      dsimp only
      split
      · exact hz
      · split
        · exact fun q => g (hc.mp q)
        · rename_i q1 q2
          rcases h with ⟨h1, h2⟩ | ⟨h1, h2, h3, h4⟩
          · exact h2 s s1 s2
          · exact fun q => q2 (by rw [g2]; exact h4 s s1 s2 q)
    · rw [if_neg g2]
      rcases h with ⟨h1, h2⟩ | ⟨h1, h2, h3, h4⟩
      · refine .inl ⟨h1, fun s s1 s2 => ?_⟩
        dsimp only
        split
        · exact hz
        · split
          · exact fun q => g (hc.mp q)
          · exact h2 s s1 s2
      · refine .inr ⟨h1, h2, ?_, fun s s1 s2 h5 => ?_⟩
        · dsimp only
          rw [if_neg (fun q => g (by rw [← q]; exact h3)), if_neg (fun q => g2 q.symm)]
          exact h3
        · dsimp only at h5
          split at h5
          · exact absurd h5 hz
          · split at h5
            · exact absurd (hc.mp h5) g
            · exact h4 s s1 s2 h5
theorem yMake {L a e : Nat} {m : Nat → Int → Int} (h : yBd L a e) (hg : yGd2 m a e) {f t : Int} (hf : 0 ≤ f ∧ f < 64) (ht : 0 ≤ t ∧ t < 64) (hne : f ≠ t) : yGd2 (zup (yMkC m a e f t) a 1 (1 - m a 1)) a e ∧ yAg (yB (zup (yMkC m a e f t) a 1 (1 - m a 1) e)) (yPut (yB (m e)) f t) ∧ zup (yMkC m a e f t) a 1 (1 - m a 1) a 1 = 1 - m a 1 ∧ ∀ x, x ≠ a → x ≠ e → zup (yMkC m a e f t) a 1 (1 - m a 1) x = m x := by
  have hae : a ≠ e := h.2.2.2.2.2
  have ha : a < 118 := h.2.2.2.1
  have he : e < 118 := h.2.2.2.2.1
  obtain ⟨hT, hB, htu, k1, k2⟩ := hg
  have hB' := zOkC_put (t := t) hB hf
  -- the parts of the new world
  have out : ∀ x, x ≠ a → x ≠ e → zup (yMkC m a e f t) a 1 (1 - m a 1) x = m x := fun x x1 x2 => by
    funext j
    unfold yMkC yPt yMk1
    rw [zup_ne x1]
    repeat' split
    all_goals simp (disch := assumption) only [zup_ne]
  have men : zup (yMkC m a e f t) a 1 (1 - m a 1) e = yPutC (m e) f t := by
    funext j
    rw [zup_ne hae.symm]
    have e0 : zup (zup (yMk1 m a t) e f 0) e t (yCrC (m e f) t) e j = yPutC (m e) f t j := by
      unfold yPutC
      by_cases g : j = t
      · rw [g, zup_self, if_neg hne.symm, if_pos rfl]
      · rw [zup_ne2 g]
        by_cases g2 : j = f
        · rw [g2, zup_self, if_pos rfl]
        · rw [zup_ne2 g2, if_neg g2, if_neg g]
          unfold yMk1
          split
          · exact zup_ne hae.symm
          · split
            · exact zup_ne hae.symm
            · rfl
    unfold yMkC yPt
    split
    · rw [zup_ne hae.symm, e0]
    · split
      · rw [zup_ne hae.symm, e0]
      · exact e0
  have hc6 := yCrC_k (t := t) (.inl rfl) (hB f hf.1 hf.2)
  have hc7 := yCrC_k (t := t) (.inr rfl) (hB f hf.1 hf.2)
  have no23 : t = m a 2 → t ≠ m a 3 := fun q1 q2 => by
    rcases k1 with ⟨q, -⟩ | ⟨-, -, q3, -⟩
    · omega
    · rcases k2 with ⟨q, -⟩ | ⟨-, -, q4, -⟩
      · omega
      · rw [← q1] at q3
        rw [← q2, q3] at q4
        exact absurd q4 (by decide)
  have f2 : zup (yMkC m a e f t) a 1 (1 - m a 1) a 2 = if m e f = 6 then t else if t = m a 2 then -1 else m a 2 := by
    rw [zup_ne2 (by decide)]
    unfold yMkC yPt
    by_cases g : m e f = 6
    · rw [if_pos (hc6.mpr g), if_pos g, zup_self]
    · rw [if_neg (fun q => g (hc6.mp q)), if_neg g]
      have e1 : zup (zup (yMk1 m a t) e f 0) e t (yCrC (m e f) t) a 2 = if t = m a 2 then -1 else m a 2 := by
        rw [zup_ne hae, zup_ne hae]
        unfold yMk1
        split
        · exact zup_self
        · split
          · exact zup_ne2 (by decide)
          · rfl
      split
      · rw [zup_ne2 (by decide), e1]
      · exact e1
  have f3 : zup (yMkC m a e f t) a 1 (1 - m a 1) a 3 = if m e f = -6 then t else if t = m a 3 then -1 else m a 3 := by
    rw [zup_ne2 (by decide)]
    unfold yMkC yPt
    have e1 : zup (zup (yMk1 m a t) e f 0) e t (yCrC (m e f) t) a 3 = if t = m a 3 then -1 else m a 3 := by
      rw [zup_ne hae, zup_ne hae]
      unfold yMk1
      by_cases g1 : t = m a 2
      · rw [if_pos g1, if_neg (no23 g1), zup_ne2 (by decide)]
      · rw [if_neg g1]
        by_cases g2 : t = m a 3
        · rw [if_pos g2, if_pos g2, zup_self]
        · rw [if_neg g2, if_neg g2]
    by_cases g : m e f = -6
    · rw [if_neg (fun q => absurd (hc6.mp q) (by rw [g]; decide)), if_pos (hc7.mpr g), if_pos g, zup_self]
    · rw [if_neg g]
      split
      · rw [zup_ne2 (by decide), e1]
      · rw [if_neg (fun q => g (hc7.mp q)), e1]
  refine ⟨⟨?_, by rw [men]; exact hB', by rw [zup_self]; omega, ?_, ?_⟩, ?_, zup_self, out⟩
  · have q : ∀ j, zup (yMkC m a e f t) a 1 (1 - m a 1) (zXB + j) = m (zXB + j) := fun j => out _ (by unfold zXB; omega) (by unfold zXB; omega)
    unfold yTab
    rw [q, q, q, q, q]
    exact hT
  · rw [men, f2]
    exact yKg_mv hB hf ht hne (.inl rfl) k1
  · rw [men, f3]
    exact yKg_mv hB hf ht hne (.inr rfl) k2
  · rw [men, yPutC_enc hB hf]
    exact fun _ _ _ => rfl
/-! the state: texts w, men b, turn c, moves played n, latest finding e, weights W, forms F and items Z of the sheets -/
def yShC (m : Nat → Int → Int) (a : Nat) (f : Int) (z : List Int) : Prop := f = -1 ∧ m a 1 = 0 ∨ (0 ≤ f ∧ f ≤ 2) ∧ m a 1 = 1 ∧ m a 2 = f ∧ m a 3 = z.length ∧ z.length ≤ 60 ∧ ∀ i : Nat, i < z.length → m (a + 1) i = z.getD i 0
def yShR (m : Nat → Int → Int) (s f : Int) (z : List Int) : Prop := m 99 s = f ∧ (f ≠ -1 → m 100 s = z.length ∧ ∀ i : Nat, i < z.length → m 101 (60 * s + i) = z.getD i 0)
/-- what never changes in the class -/
def yFix (m : Nat → Int → Int) : Prop := yTxt m ∧ (m 11 0 = 0 ∧ m 11 1 = 0 ∧ m 11 2 = 1) ∧ (m 27 0 = 0 ∧ m 27 1 = 0 ∧ m 27 2 = 1) ∧ (∀ s : Int, 0 ≤ s → s < 3072 → m 18 s = 0) ∧ ∀ s : Int, 0 ≤ s → s < 3072 → m 25 s = 0
def yCs (m : Nat → Int → Int) (w : Int → List Int) (b : Int → Int) (c n e : Int) (W F : Int → Int) (Z : Int → List Int) : Prop :=
  (yTw m 2 80 (w 0) ∧ yTw m 4 10 (w 1) ∧ yTw m 6 60 (w 2)) ∧ (yGd2 m 8 9 ∧ yAg (yB (m 9)) b ∧ 8 * m 8 1 = c) ∧ (m 0 13 = (yHome (w 0)).1 ∧ m 0 14 = n ∧ m 0 15 = e) ∧ (m 0 16 = 0 ∨ m 0 16 = 1 ∧ yNm2 m 13 b (yMv b c)) ∧ yFix m ∧ (∀ i : Int, 0 ≤ i → i < 6 → m 19 i = W i ∧ 0 ≤ W i ∧ W i ≤ 9) ∧ yShC m 90 (F 0) (Z 0) ∧ yShC m 92 (F 1) (Z 1) ∧ yShC m 94 (F 2) (Z 2) ∧ yShC m 96 (F 3) (Z 3)
/-- a board as it should be -/
def yPu (b : Int → Int) (c : Int) : Prop := zOkB b ∧ (∀ s, 0 ≤ s → s < 64 → b s % 8 ≠ 7) ∧ (∀ s, 0 ≤ s → s < 64 → b s ≠ 8) ∧ (c = 0 ∨ c = 8)
def yRs (m : Nat → Int → Int) (w : Int → List Int) (b : Int → Int) (c n e : Int) (W F : Int → Int) (Z : Int → List Int) : Prop :=
  (yRt m 0 (w 0) ∧ yRt m 1 (w 1) ∧ yRt m 2 (w 2)) ∧ (yPu b c ∧ yAg (zbd m 0) b ∧ m 106 0 = c) ∧ (m 98 10 = n ∧ m 98 4 = e) ∧ (∀ i : Int, 0 ≤ i → i < 6 → m 111 i = W i ∧ 0 ≤ W i ∧ W i ≤ 9) ∧ yShR m 0 (F 0) (Z 0) ∧ yShR m 1 (F 1) (Z 1) ∧ yShR m 2 (F 2) (Z 2) ∧ yShR m 3 (F 3) (Z 3)
theorem yPu_ok {b : Int → Int} {c : Int} (h : yPu b c) : yOkv b (yMv b c) := yOkv_mv h.1 h.2.1 h.2.2.1 h.2.2.2
theorem yPu_B {b : Int → Int} (hB : zOkC b) {c : Int} (hc : c = 0 ∨ c = 8) : yPu (yB b) c := ⟨zOkB_of hB, fun s h1 h2 => (yEnc_ok (hB s h1 h2)).1, fun s h1 h2 => (yEnc_ok (hB s h1 h2)).2, hc⟩
theorem yPu_cg {b b' : Int → Int} {c : Int} (h : yAg b b') (hp : yPu b c) : yPu b' c := ⟨fun s h1 h2 => by rw [← h s h1 h2]; exact hp.1 s h1 h2, fun s h1 h2 => by rw [← h s h1 h2]; exact hp.2.1 s h1 h2, fun s h1 h2 => by rw [← h s h1 h2]; exact hp.2.2.1 s h1 h2, hp.2.2.2⟩
section ST
variable {m m' : Nat → Int → Int} {w : Int → List Int} {b : Int → Int} {c n e : Int} {W F : Int → Int} {Z : Int → List Int}
theorem yCs_pu (h : yCs m w b c n e W F Z) : yPu b c := by
  obtain ⟨-, ⟨h1, h2, h3⟩, -⟩ := h
  have ht := h1.2.2.1
  exact yPu_cg h2 (yPu_B h1.2.1 (by omega))
theorem yShC_fr {a : Nat} {f : Int} {z : List Int} (h : yShC m a f z) (h1 : m' a = m a) (h2 : m' (a + 1) = m (a + 1)) : yShC m' a f z := by
  unfold yShC
  rw [h1, h2]
  exact h
theorem yTw_c {t C : Nat} {u : List Int} (h : yTw m t C u) (h1 : m' t = m t) (h2 : m' (t + 1) = m (t + 1)) : yTw m' t C u := by
  unfold yTw
  rw [h1, h2]
  exact h
theorem yFix_fr {P : Nat → Int → Prop} (h : yFix m) (hf : yFq P m m') (h2 : ∀ x j, (x = 11 ∨ x = 27 ∨ x = 18 ∨ x = 25 ∨ 1000 ≤ x) → ¬ P x j) : yFix m' := by
  have q : ∀ x, (x = 11 ∨ x = 27 ∨ x = 18 ∨ x = 25 ∨ 1000 ≤ x) → m' x = m x := fun x hx => by
    funext j
    exact hf x j (h2 x j hx)
  obtain ⟨h3, h4⟩ := h
  refine ⟨?_, ?_⟩
  · unfold yTxt
    rw [q (zXB + 10) (by unfold zXB; omega), q (zXB + 20) (by unfold zXB; omega), q (zXB + 11) (by unfold zXB; omega), q (zXB + 21) (by unfold zXB; omega)]
    exact h3
  · rw [q 11 (by omega), q 27 (by omega), q 18 (by omega), q 25 (by omega)]
    exact h4
/-- cells of the class that hold the state -/
def yHold (x : Nat) (j : Int) : Prop := 2 ≤ x ∧ x ≤ 9 ∨ x = 0 ∨ 11 ≤ x ∧ x ≤ 16 ∧ x ≠ 12 ∨ x = 18 ∨ x = 19 ∨ x = 25 ∨ x = 27 ∨ 90 ≤ x ∧ x ≤ 97 ∨ 1000 ≤ x
theorem yCs_fr {P : Nat → Int → Prop} (h : yCs m w b c n e W F Z) (hf : yFq P m m') (h2 : ∀ x j, yHold x j → ¬ P x j) : yCs m' w b c n e W F Z := by
  have q : ∀ x, yHold x 0 → m' x = m x := fun x hx => by
    funext j
    exact hf x j (h2 x j hx)
  obtain ⟨⟨a1, a2, a3⟩, ⟨b1, b2, b3⟩, ⟨c1, c2, c3⟩, d1, e1, f1, g1, g2, g3, g4⟩ := h
  have q0 := q 0 (by unfold yHold; omega)
  have q8 := q 8 (by unfold yHold; omega)
  have q9 := q 9 (by unfold yHold; omega)
  refine ⟨⟨yTw_c a1 (q 2 (by unfold yHold; omega)) (q 3 (by unfold yHold; omega)), yTw_c a2 (q 4 (by unfold yHold; omega)) (q 5 (by unfold yHold; omega)), yTw_c a3 (q 6 (by unfold yHold; omega)) (q 7 (by unfold yHold; omega))⟩, ⟨?_, by rw [q9]; exact b2, by rw [q8]; exact b3⟩, by rw [q0]; exact ⟨c1, c2, c3⟩, ?_, yFix_fr e1 hf (fun x j hx => h2 x j (by unfold yHold; omega)), by rw [q 19 (by unfold yHold; omega)]; exact f1, yShC_fr g1 (q 90 (by unfold yHold; omega)) (q 91 (by unfold yHold; omega)), yShC_fr g2 (q 92 (by unfold yHold; omega)) (q 93 (by unfold yHold; omega)), yShC_fr g3 (q 94 (by unfold yHold; omega)) (q 95 (by unfold yHold; omega)), yShC_fr g4 (q 96 (by unfold yHold; omega)) (q 97 (by unfold yHold; omega))⟩
  · have qt : ∀ j, m' (zXB + j) = m (zXB + j) := fun j => q _ (by unfold yHold zXB; omega)
    unfold yGd2 yTab
    rw [q8, q9, qt, qt, qt, qt, qt]
    exact b1
  · unfold yNm2 yMl
    rw [q0, q 13 (by unfold yHold; omega), q 14 (by unfold yHold; omega), q 15 (by unfold yHold; omega), q 16 (by unfold yHold; omega)]
    exact d1
/-- cells of the reference that hold the state -/
def yHoldR (x : Nat) (j : Int) : Prop := x = 103 ∨ x = 104 ∨ x = 105 ∧ 0 ≤ j ∧ j < 64 ∨ x = 106 ∧ j = 0 ∨ x = 98 ∧ (j = 10 ∨ j = 4) ∨ x = 111 ∨ x = 99 ∨ x = 100 ∨ x = 101
theorem yRs_fr {P : Nat → Int → Prop} (h : yRs m w b c n e W F Z) (hf : yFq P m m') (h2 : ∀ x j, yHoldR x j → ¬ P x j) : yRs m' w b c n e W F Z := by
  have q : ∀ x j, yHoldR x j → m' x j = m x j := fun x j hx => hf x j (h2 x j hx)
  have qx : ∀ x, (x = 103 ∨ x = 104 ∨ x = 111 ∨ x = 99 ∨ x = 100 ∨ x = 101) → m' x = m x := fun x hx => by
    funext j
    exact q x j (by unfold yHoldR; omega)
  obtain ⟨⟨a1, a2, a3⟩, ⟨b1, b2, b3⟩, ⟨c1, c2⟩, f1, g1, g2, g3, g4⟩ := h
  have tx : ∀ t u, yRt m t u → yRt m' t u := fun t u h => by
    unfold yRt
    rw [qx 103 (by omega), qx 104 (by omega)]
    exact h
  have sh : ∀ s f z, yShR m s f z → yShR m' s f z := fun s f z h => by
    unfold yShR
    rw [qx 99 (by omega), qx 100 (by omega), qx 101 (by omega)]
    exact h
  refine ⟨⟨tx _ _ a1, tx _ _ a2, tx _ _ a3⟩, ⟨b1, fun s s1 s2 => ?_, by rw [q 106 0 (by unfold yHoldR; omega)]; exact b3⟩, ⟨by rw [q 98 10 (by unfold yHoldR; omega)]; exact c1, by rw [q 98 4 (by unfold yHoldR; omega)]; exact c2⟩, by rw [qx 111 (by omega)]; exact f1, sh _ _ _ g1, sh _ _ _ g2, sh _ _ _ g3, sh _ _ _ g4⟩
  rw [← b2 s s1 s2]
  unfold zbd
  exact q 105 _ (by unfold yHoldR; omega)
end ST
