/-! texts of the class, faultOf and parse of sayings -/
def yTo (L t C : Nat) : Prop := (zSH L t = (1, 0) ∧ zMR t 0 = some (t + 1) ∧ zSH L (t + 1) = (100, C)) ∧ t + 1 < 98 ∧ C ≤ 80
def yTw (m : Nat → Int → Int) (t C : Nat) (w : List Int) : Prop := m t 1 = w.length ∧ w.length ≤ C ∧ ∀ i : Nat, i < w.length → m (t + 1) i = w.getD i 0 ∧ 0 ≤ w.getD i 0 ∧ w.getD i 0 < 256
theorem ydrop {w : List Int} {i : Nat} (h : i < w.length) : w.drop i = w.getD i 0 :: w.drop (i + 1) := by
  rw [List.drop_eq_getElem_cons h, List.getD_eq_getElem?_getD, List.getElem?_eq_getElem h]
  rfl
theorem yTw_fr {m m' : Nat → Int → Int} {t C : Nat} {w : List Int} (h : yTw m t C w) {lo hi : Nat} (hf : yFr lo hi m m') (d : t + 1 < lo ∨ hi < t) : yTw m' t C w := by
  unfold yTw
  rw [hf t (by omega), hf (t + 1) (by omega)]
  exact h
section ZR
variable {L : Nat} {m : Nat → Int → Int} (D : Nat) {t C z : Nat} {w : List Int}
theorem yor (h : yTo L t C) : zGR (zW L m) t 1 0 = some (t + 1) := (zw_gr (congrArg Prod.fst h.1.1)).trans h.1.2.1
theorem yoi {k : Int} (h : yTo L t C) : zGI (zW L m) t 1 k = some (m t k) := zw_gi (congrArg Prod.fst h.1.1)
theorem yop {k z : Int} (h : yTo L t C) : zPI (zW L m) t 1 k z = some (zW L (zup m t k z)) := zw_pi (congrArg Prod.fst h.1.1) (by have := h.2.1; omega)
theorem yoa {k : Int} (h : yTo L t C) (h1 : 0 ≤ k) (h2 : k < C) : zAI (zW L m) 100 (t + 1) k = some (m (t + 1) k) := zw_ai (congrArg Prod.fst h.1.2.2) h1 (by rw [h.1.2.2]; exact h2)
theorem yos {k z : Int} (h : yTo L t C) (h1 : 0 ≤ k) (h2 : k < C) : zSI (zW L m) 100 (t + 1) k z = some (zW L (zup m (t + 1) k z)) := zw_si (congrArg Prod.fst h.1.2.2) h1 (by rw [h.1.2.2]; exact h2) (by have := h.2.1; omega)
theorem yol (h : yTo L t C) : zLen (zW L m) (t + 1) = some (C : Int) := (zw_len (by rw [h.1.2.2]; exact Nat.le_refl 100) (by rw [h.1.2.2]; have := h.2.2; show C ≤ 100000; omega)).trans (by rw [h.1.2.2])
theorem yoc (h : yTo L t C) {K : zmK} {y : Nat} {A : List zmV} : zcv K y 1 t A (zW L m) = K y A (zW L m) := zw_cv (congrArg Prod.fst h.1.1)
theorem zk_22 (h : yTo L t C) (hw : yTw m t C w) : zmD zP (D + 1) 22 [zr t] (zW L m) = some (some (zi w.length), zW L m) := by
  rw [zen_22, zb_22_0, yoi h, zbs, hw.1]
theorem zk_23 (h : yTo L t C) (hw : yTw m t C w) (i : Int) : zmD zP (D + 1) 23 [zr t, zi i] (zW L m) = some (some (zi (yGet w i)), zW L m) := by
  have hl := hw.2.1
  unfold yGet
  rw [zen_23, zb_23_0, yoi h, zbs, hw.1]
  by_cases g : i < 0
  · rw [if_pos g, if_neg (by omega)]
  · rw [if_neg g]
    by_cases g2 : i < w.length
    · have e := (hw.2.2 i.toNat (by omega)).1
      rw [show ((i.toNat : Nat) : Int) = i by omega] at e
      rw [if_pos g2, if_pos ⟨by omega, g2⟩, yor h, zbs, yoa h (by omega) (by omega), zbs, e]
    · rw [if_neg g2, if_neg (by omega)]
theorem yGet_at {i : Nat} (h : i < w.length) : yGet w i = w.getD i 0 := by
  unfold yGet
  rw [if_pos (by omega), Int.toNat_natCast]
theorem zk_54 (h : yTo L t C) : zmD zP (D + 1) 54 [zr t] (zW L m) = some (none, zW L (zup m t 1 0)) := by
  rw [zen_54, zb_54_0, yop h, zbs]
theorem zk_16 (h : yTo L t C) (hw : yTw m t C w) (b : Int) (hb : 0 ≤ b ∧ b < 256) : ∃ m', zmD zP (D + 1) 16 [zr t, zi b] (zW L m) = some (some (zi (if w.length < C then 1 else 0)), zW L m') ∧ yFr t (t + 1) m m' ∧ yTw m' t C (if w.length < C then w ++ [b] else w) := by
  have hC := h.2.2
  have hl := hw.2.1
  rw [zen_16, zb_16_0, yoi h, zbs, yor h, zbs, yol h, zbs, hw.1]
  by_cases g : w.length < C
  · rw [if_pos (show (w.length : Int) < C by omega), if_pos g, if_pos g]
    simp (disch := omega) only [zbs, yos h, yoi h, yop h, zup_ne, hw.1, w32_of]
    refine ⟨_, rfl, fun x hx => ?_, ?_, ?_, fun i hi => ?_⟩
    · funext j
      rw [zup_ne (by omega), zup_ne (by omega)]
    · rw [zup_self, List.length_append]
      rfl
    · rw [List.length_append]
      show w.length + 1 ≤ C
      omega
    · rw [List.length_append] at hi
      have hi : i < w.length + 1 := hi
      rw [zup_ne (by omega)]
      by_cases g2 : i = w.length
      · subst g2
        rw [zup_self, yget_e rfl]
        exact ⟨rfl, hb⟩
      · rw [zup_ne2 (by omega), yget_l (by omega)]
        exact hw.2.2 i (by omega)
  · rw [if_neg (show ¬ (w.length : Int) < C by omega), if_neg g, if_neg g]
    exact ⟨m, rfl, yFr_rfl, hw⟩
theorem zk_56 (h : yTo L t C) (hw : yTw m t C w) (hX : yTxt m) : zmD zP (D + 7) 56 [zr t] (zW L m) = some (some (zi (yRun 0 w 0)), zW L m) := by
  have hC := h.2.2
  have hl := hw.2.1
  rw [zen_56, zb_56_0]
  suffices go : ∀ k i : Nat, i + k = w.length → ∀ s : Int, zmE (zmD zP (D+6)) zc_56 (4, [some (zr t), some (zi s), some (zi i)], [], zW L m) = some (some (zi (yRun s (w.drop i) i)), zW L m) from go w.length 0 (by omega) 0
  intro k
  induction k with
  | zero =>
    intro i hi s
    rw [zb_56_4, yoc h, zk_22 (D + 5) h hw, zbs, zmG_v, zb_56_9, if_neg (by omega), zk_60, zbs, zmG_v, zb_56_40, List.drop_eq_nil_of_le (by omega), yRun_nil]
    by_cases g : yT (yEnds s) = 0
    · rw [if_pos g, if_pos g, yoc h, zk_22 (D + 5) h hw, zbs, zmG_v, zb_56_51, show i = w.length by omega]
    · rw [if_neg g, if_neg g, zb_56_51]
  | succ k ih =>
    intro i hi s
    have hi2 : i < w.length := by omega
    rw [zb_56_4, yoc h, zk_22 (D + 5) h hw, zbs, zmG_v, zb_56_9, if_pos (by omega), yoc h, zk_23 (D + 5) h hw, zbs, zmG_v, zb_56_18, yGet_at hi2, zk_57 D hX _ _ (hw.2.2 i hi2).2, zbs, zmG_v, zb_56_21, ydrop hi2, yRun_cons]
    by_cases g : yNext s (w.getD i 0) = 7
    · rw [if_pos g, if_pos g]
    · rw [if_neg g, if_neg g, w32_of (by omega) (by omega)]
      have e := ih (i + 1) (by omega) (yNext s (w.getD i 0))
      rw [Int.natCast_succ] at e
      exact e
/-- how large a key is at a stage -/
def yBnd (s : Int) : Int := if s = 0 then 0 else if s = 1 then 5 else if s = 2 ∨ s = 3 then 47 else if s = 5 then 383 else if s = 4 then 3071 else 24575
theorem yNext_cr {s b : Int} (h1 : yNext s b ≠ 1) (h7 : yNext s b ≠ 7) : (0 ≤ yDig b ∧ yDig b < 8) ∧ ∀ k, 0 ≤ k → k ≤ yBnd s → 0 ≤ k * 8 + yDig b ∧ k * 8 + yDig b ≤ yBnd (yNext s b) := by
  have key : (yCl b ∨ yRw b) → 0 ≤ yDig b ∧ yDig b < 8 := fun h => by
    rcases h with h | h
    · rw [(yCol_y h).2.2.1]
      exact (yCol_y h).2.2.2.1
    · rw [(yRow_y h).2.2.1]
      exact (yRow_y h).2.2.2.1
  unfold yNext at h1 h7 ⊢
  unfold yBnd
  by_cases c : yCl b <;> by_cases r : yRw b
  · exact absurd r (yCR c)
  · have q := key (.inl c)
    simp only [yT_pos c, yT_neg r, Int.reduceEq, if_true, if_false] at *
    refine ⟨q, fun k k1 k2 => ?_⟩
    by_cases s0 : s = 0
    · subst s0
      simp only [if_true] at *
      split at h1
      · exact absurd rfl h1
      · rename_i g
        simp only [if_neg g, Int.reduceEq, if_false, true_or, if_true]
        omega
    by_cases s1 : s = 1
    · subst s1
      simp only [Int.reduceEq, if_false, true_or, if_true] at *
      omega
    by_cases s2 : s = 2
    · subst s2
      simp only [Int.reduceEq, if_false, true_or, or_false, false_or, if_true] at *
      omega
    by_cases s3 : s = 3
    · subst s3
      simp only [Int.reduceEq, if_false, true_or, or_true, or_false, false_or, if_true] at *
      omega
    by_cases s4 : s = 4
    · subst s4
      simp only [Int.reduceEq, if_false, if_true] at h7
      exact absurd rfl h7
    by_cases s5 : s = 5
    · subst s5
      simp only [Int.reduceEq, if_false, true_or, or_false, false_or, if_true] at *
      omega
    · simp only [s0, s1, s2, s3, s4, s5, if_false] at h7
      exact absurd rfl h7
  · have q := key (.inr r)
    simp only [yT_neg c, yT_pos r, Int.reduceEq, if_true, if_false] at *
    refine ⟨q, fun k k1 k2 => ?_⟩
    by_cases s0 : s = 0
    · subst s0
      simp only [if_true] at *
      split at h1
      · exact absurd rfl h1
      · rename_i g
        simp only [if_neg g, Int.reduceEq, if_false, or_true, if_true]
        omega
    by_cases s1 : s = 1
    · subst s1
      simp only [Int.reduceEq, if_false, or_true, if_true] at *
      omega
    by_cases s2 : s = 2
    · subst s2
      simp only [Int.reduceEq, if_false, true_or, or_false, false_or, if_true] at *
      omega
    by_cases s3 : s = 3
    · subst s3
      simp only [Int.reduceEq, if_false, if_true] at h7
      exact absurd rfl h7
    by_cases s4 : s = 4
    · subst s4
      simp only [Int.reduceEq, if_false, true_or, or_false, false_or, if_true] at *
      omega
    by_cases s5 : s = 5
    · subst s5
      simp only [Int.reduceEq, if_false, if_true] at h7
      exact absurd rfl h7
    · simp only [s0, s1, s2, s3, s4, s5, if_false] at h7
      exact absurd rfl h7
  · exfalso
    simp only [yT_neg c, yT_neg r, if_true, ite_self] at h1 h7
    split at h7
    · rename_i s0
      rw [if_pos s0] at h1
      split at h7
      · rename_i g
        rw [if_pos g] at h1
        exact h1 rfl
      · exact h7 rfl
    · exact h7 rfl
theorem yBnd_le (s : Int) : yBnd s ≤ 24575 := by
  unfold yBnd
  repeat' split
  all_goals omega
theorem zk_124 (hz : zSH L z = (4, 0)) (hz2 : z < 98) (b left : Int) (hb : 0 ≤ b ∧ b < 256) (hk : 0 ≤ m z 1 ∧ m z 1 ≤ 24575) : ∃ m', zmD zP (D + 2) 124 [zr z, zi b, zi left] (zW L m) = some (none, zW L m') ∧ yFr z z m m' ∧ m' z 0 = z_or (m z 0) (yPart b left) ∧ m' z 1 = m z 1 * 8 + yDig b := by
  have gi : ∀ (M : Nat → Int → Int) k, zGI (zW L M) z 4 k = some (M z k) := fun M k => zw_gi (congrArg Prod.fst hz)
  have pi : ∀ (M : Nat → Int → Int) k x, zPI (zW L M) z 4 k x = some (zW L (zup M z k x)) := fun M k x => zw_pi (congrArg Prod.fst hz) (by omega)
  have fin : ∀ c : Int, c = yT (yCl b) → ∀ p : Int, zmE (zmD zP (D+1)) zc_124 (50, [some (zr z), some (zi b), some (zi left), some (zi c)], [], zW L (zup m z 0 p)) = some (none, zW L (zup (zup m z 0 p) z 1 (m z 1 * 8 + yDig b))) := fun c hc p => by
    have hd : -97 ≤ yDig b ∧ yDig b ≤ 255 := by
      unfold yDig
      split <;> omega
    have e73 : ∀ d : Int, d = yDig b → zmE (zmD zP (D+1)) zc_124 (73, [some (zr z), some (zi b), some (zi left), some (zi c)], [zi d, zi (m z 1 * 8), zr z], zW L (zup m z 0 p)) = some (none, zW L (zup (zup m z 0 p) z 1 (m z 1 * 8 + yDig b))) := fun d hd2 => by
      rw [zb_124_73, hd2, w32_of (by omega) (by omega), pi, zbs]
    rw [zb_124_50, gi, zbs, zup_ne2 (by decide), w32_of (z := m z 1 * 8) (by omega) (by omega)]
    by_cases g : c = 0
    · rw [if_pos g, w32_of (z := b - 49) (by omega) (by omega)]
      exact e73 _ (by unfold yDig; rw [← hc, if_pos g])
    · rw [if_neg g, w32_of (z := b - 97) (by omega) (by omega)]
      exact e73 _ (by unfold yDig; rw [← hc, if_neg g])
  have done : ∀ p : Int, p = z_or (m z 0) (yPart b left) → ∃ m', some ((none : Option zmV), zW L (zup (zup m z 0 p) z 1 (m z 1 * 8 + yDig b))) = some (none, zW L m') ∧ yFr z z m m' ∧ m' z 0 = z_or (m z 0) (yPart b left) ∧ m' z 1 = m z 1 * 8 + yDig b := fun p hp => by
    refine ⟨_, rfl, fun x hx => ?_, ?_, zup_self⟩
    · funext j
      rw [zup_ne (by omega), zup_ne (by omega)]
    · rw [zup_ne2 (by decide), zup_self, hp]
  rw [zen_124, zb_124_0, zk_58, zbs, zmG_v, zb_124_4, gi, zbs]
  by_cases g : 2 < left
  · rw [if_pos g]
    by_cases g2 : yT (yCl b) = 0
    · rw [if_pos g2, zb_124_25, pi, zbs, fin _ rfl]
      exact done _ (by unfold yPart; rw [if_pos g, if_pos g2])
    · rw [if_neg g2, zb_124_25, pi, zbs, fin _ rfl]
      exact done _ (by unfold yPart; rw [if_pos g, if_neg g2])
  · rw [if_neg g, zbs]
    by_cases g2 : yT (yCl b) = 0
    · rw [if_pos g2, zb_124_46, pi, zbs, fin _ rfl]
      exact done _ (by unfold yPart; rw [if_neg g, if_pos g2])
    · rw [if_neg g2, zb_124_46, pi, zbs, fin _ rfl]
      exact done _ (by unfold yPart; rw [if_neg g, if_neg g2])
theorem zk_123 (h : yTo L t C) (hw : yTw m t C w) (hX : yTxt m) (hz : zSH L z = (4, 0)) (hz2 : z < 98) (dz : z ≠ t ∧ z ≠ t + 1) (st en : Nat) (h1 : st ≤ en) (h2 : en ≤ w.length) : ∃ m', zmD zP (D + 7) 123 [zr z, zr t, zi st, zi en] (zW L m) = some (none, zW L m') ∧ yFr z z m m' ∧ m' z 0 = (yPar ((w.drop st).take (en - st)) 0 0 0).2.1 ∧ m' z 1 = (yPar ((w.drop st).take (en - st)) 0 0 0).2.2 ∧ m' z 2 = yT (yEnds (yPar ((w.drop st).take (en - st)) 0 0 0).1) := by
  have hC := h.2.2
  have hl := hw.2.1
  have gi : ∀ (M : Nat → Int → Int) k, zGI (zW L M) z 4 k = some (M z k) := fun M k => zw_gi (congrArg Prod.fst hz)
  have pi : ∀ (M : Nat → Int → Int) k x, zPI (zW L M) z 4 k x = some (zW L (zup M z k x)) := fun M k x => zw_pi (congrArg Prod.fst hz) (by omega)
  have zc : ∀ (M : Nat → Int → Int) {K : zmK} {y : Nat} {A : List zmV}, zcv K y 4 z A (zW L M) = K y A (zW L M) := fun M => zw_cv (congrArg Prod.fst hz)
  suffices go : ∀ k i : Nat, i + k = en → ∀ (s : Int) (o6 : Option zmV) (M : Nat → Int → Int), yFr z z m M → 0 ≤ M z 1 → M z 1 ≤ yBnd s → ∃ m', zmE (zmD zP (D+6)) zc_123 (16, [some (zr z), some (zr t), some (zi st), some (zi en), some (zi s), some (zi i), o6], [], zW L M) = some (none, zW L m') ∧ yFr z z m m' ∧ m' z 0 = (yPar ((w.drop i).take (en - i)) s (M z 0) (M z 1)).2.1 ∧ m' z 1 = (yPar ((w.drop i).take (en - i)) s (M z 0) (M z 1)).2.2 ∧ m' z 2 = yT (yEnds (yPar ((w.drop i).take (en - i)) s (M z 0) (M z 1)).1) by
    have e := go (en - st) st (by omega) 0 none (zup (zup m z 0 0) z 1 0) (fun x hx => by
      funext j
      rw [zup_ne (by omega), zup_ne (by omega)]) (by rw [zup_self]; decide) (by rw [zup_self]; decide)
    rw [zup_ne2 (by decide), zup_self, zup_self] at e
    rw [zen_123, zb_123_0, pi, zbs, pi, zbs]
    exact e
  intro k
  induction k with
  | zero =>
    intro i hi s o6 M hF b1 b2
    rw [zb_123_16, if_neg (by omega), zk_60, zbs, zmG_v, zb_123_94, show en - i = 0 by omega, List.take_zero, yPar_nil, zw_pz (congrArg Prod.fst hz) (by omega) yT_or, zbs]
    refine ⟨_, rfl, fun x hx => ?_, zup_ne2 (by decide), zup_ne2 (by decide), zup_self⟩
    funext j
    rw [zup_ne (by omega), hF x hx]
  | succ k ih =>
    intro i hi s o6 M hF b1 b2
    have hi2 : i < w.length := by omega
    have hXM : yTxt M := yTxt_fr hX hF (by omega)
    have hwM : yTw M t C w := yTw_fr hw hF (by omega)
    have hb := (hw.2.2 i hi2).2
    have hbn := yBnd_le s
    have nx : ∀ (s' : Int) (M2 : Nat → Int → Int) (o6 : Int), yFr z z m M2 → 0 ≤ M2 z 1 → M2 z 1 ≤ yBnd s' → ∃ m', zmE (zmD zP (D+6)) zc_123 (82, [some (zr z), some (zr t), some (zi st), some (zi en), some (zi s'), some (zi i), some (zi o6)], [], zW L M2) = some (none, zW L m') ∧ yFr z z m m' ∧ m' z 0 = (yPar ((w.drop (i + 1)).take (en - (i + 1))) s' (M2 z 0) (M2 z 1)).2.1 ∧ m' z 1 = (yPar ((w.drop (i + 1)).take (en - (i + 1))) s' (M2 z 0) (M2 z 1)).2.2 ∧ m' z 2 = yT (yEnds (yPar ((w.drop (i + 1)).take (en - (i + 1))) s' (M2 z 0) (M2 z 1)).1) := fun s' M2 o6 f1 f2 f3 => by
      have e := ih (i + 1) (by omega) s' (some (zi o6)) M2 f1 f2 f3
      rw [Int.natCast_succ] at e
      rw [zb_123_82, w32_of (by omega) (by omega)]
      exact e
    rw [zb_123_16, if_pos (by omega), yoc h, zk_23 (D + 5) h hwM, zbs, zmG_v, zb_123_28, yGet_at hi2, zk_57 D hXM _ _ hb, zbs, zmG_v, zb_123_37, ydrop hi2, show en - i = (en - (i + 1)) + 1 by omega, List.take_succ_cons, yPar_cons]
    by_cases g1 : yNext s (w.getD i 0) = 1
    · have hm : 0 < yMan (w.getD i 0) ∧ yMan (w.getD i 0) ≤ 6 := by
        refine ⟨?_, (yMan_enc _).2.2⟩
        apply Classical.byContradiction
        intro hc
        by_cases s0 : s = 0
        · subst s0
          rw [yNext_0 hc] at g1
          exact yNext_ne1 (by decide) g1
        · exact yNext_ne1 s0 g1
      rw [if_pos g1, if_pos g1, pi, zbs, zk_27 (D + 1) (yTxt_fr hXM (m' := zup M z 0 16) (lo := z) (hi := z) (fun x hx => by funext j; rw [zup_ne (by omega)]) (by omega)) _ hb, zbs, zmG_v, zb_123_57, w32_of (by omega) (by omega), pi, zbs]
      have e := nx 1 (zup (zup M z 0 16) z 1 (yMan (w.getD i 0) - 1)) (w.getD i 0) (fun x hx => by
        funext j
        rw [zup_ne (by omega), zup_ne (by omega), hF x hx]) (by rw [zup_self]; omega) (by rw [zup_self]; show _ ≤ (5 : Int); omega)
      rw [zup_ne2 (by decide), zup_self, zup_self] at e
      rw [g1]
      exact e
    · rw [if_neg g1, if_neg g1]
      by_cases g7 : yNext s (w.getD i 0) = 7
      · rw [if_pos g7, if_pos g7, g7]
        exact nx 7 M _ hF b1 (by show _ ≤ (24575 : Int); omega)
      · obtain ⟨c1, c2⟩ := yNext_cr g1 g7
        obtain ⟨M2, e1, e2, e3, e4⟩ := zk_124 (m := M) (D + 4) hz hz2 (w.getD i 0) ((en : Int) - i) hb ⟨b1, by omega⟩
        rw [if_neg g7, if_neg g7, w32_of (by omega) (by omega), zc, e1, zbs, zmG_n]
        have hb2 := c2 _ b1 b2
        have e := nx (yNext s (w.getD i 0)) M2 (w.getD i 0) (yFr_tr hF e2) (by rw [e4]; exact hb2.1) (by rw [e4]; exact hb2.2)
        rw [e3, e4] at e
        have hlen : (((w.drop (i + 1)).take (en - (i + 1))).length : Int) + 1 = (en : Int) - i := by
          rw [List.length_take, List.length_drop]
          omega
        rw [hlen]
        exact e
end ZR
