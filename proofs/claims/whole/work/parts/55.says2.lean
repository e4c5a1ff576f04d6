/-! says of the reference -/
def yPhi (r : Int) : Int := if r = 0 then 1 else if r = 1 then 2 else if r = 2 then 3 else if r = 3 then 5 else if r = 4 ∨ r = 5 then 4 else 6
noncomputable def yRa (r b : Int) : Int := if yT (yCl b) = 0 then -1 else if r = 0 then 1 else if r = 1 then 4 else if r = 2 then 4 else if r = 3 then 5 else -1
noncomputable def yRn (r b : Int) : Int := if yT (yRw b) = 0 then yRa r b else if r = 0 then 2 else if r = 1 then 3 else if r = 4 then 6 else if r = 5 then 6 else -1
theorem yRn_phi {r b : Int} (hr : 0 ≤ r ∧ r ≤ 6) : (yRn r b = -1 ∧ yNext (yPhi r) b = 7) ∨ ((0 ≤ yRn r b ∧ yRn r b ≤ 6) ∧ yNext (yPhi r) b ≠ 7 ∧ yPhi (yRn r b) = yNext (yPhi r) b) := by
  have e : r = 0 ∨ r = 1 ∨ r = 2 ∨ r = 3 ∨ r = 4 ∨ r = 5 ∨ r = 6 := by omega
  unfold yRn yRa
  by_cases c : yCl b
  · have c2 := yCR c
    rw [yT_pos c, yT_neg c2]
    rcases e with e | e | e | e | e | e | e <;> subst e <;> simp only [yPhi, yNext, yT_pos c, yT_neg c2, Int.reduceEq, if_true, if_false, true_or, or_true, or_false, false_or, ne_eq, not_true, not_false_eq_true, and_self, and_true, true_and, Int.reduceLE, Int.reduceNeg]
  · by_cases c2 : yRw b
    · rw [yT_neg c, yT_pos c2]
      rcases e with e | e | e | e | e | e | e <;> subst e <;> simp only [yPhi, yNext, yT_neg c, yT_pos c2, Int.reduceEq, if_true, if_false, true_or, or_true, or_false, false_or, ne_eq, not_true, not_false_eq_true, and_self, and_true, true_and, Int.reduceLE, Int.reduceNeg]
    · rw [yT_neg c, yT_neg c2]
      rcases e with e | e | e | e | e | e | e <;> subst e <;> simp only [yPhi, yNext, yT_neg c, yT_neg c2, Int.reduceEq, if_true, if_false, true_or, or_true, or_false, false_or, ne_eq, not_true, not_false_eq_true, and_self, and_true, true_and, Int.reduceLE, Int.reduceNeg]
theorem zcolumn_n {b : Int} : (if zcolumn b = -1 then (0 : Int) else 1) = yT (yCl b) := by
  by_cases c : yCl b
  · rw [yT_pos c, if_neg]
    rw [(yCol_y c).1]
    unfold yCl at c
    omega
  · rw [yT_neg c]
    unfold zcolumn
    unfold yCl at c
    rw [if_neg c, if_pos rfl]
theorem zrow_n {b : Int} : (if zrow b = -1 then (0 : Int) else 1) = yT (yRw b) := by
  by_cases c : yRw b
  · rw [yT_pos c, if_neg]
    rw [(yRow_y c).2.1]
    unfold yRw at c
    omega
  · rw [yT_neg c]
    unfold zrow
    unfold yRw at c
    rw [if_neg c, if_pos rfl]
theorem yRun_01 {u : List Int} {k : Int} (h : ∀ b w, u = b :: w → ¬ 0 < yMan b) : yRun 0 u k = yRun 1 u k := by
  cases u with
  | nil => rw [yRun_nil, yRun_nil, yEnds_no (by omega), yEnds_no (by omega)]
  | cons b w => rw [yRun_cons, yRun_cons, yNext_0 (h b w rfl)]
theorem yPar_01 {u : List Int} (h : ∀ b w, u = b :: w → ¬ 0 < yMan b) (h2 : u ≠ []) {p k : Int} : yPar u 0 p k = yPar u 1 p k := by
  cases u with
  | nil => exact absurd rfl h2
  | cons b w => rw [yPar_cons, yPar_cons, yNext_0 (h b w rfl)]
theorem yRun_shift {s : Int} : ∀ (u : List Int) (k n : Int), 0 ≤ k → 0 ≤ n → (yRun s u k = -1 ↔ yRun s u n = -1)
  | u, k, n, hk, hn => (yPar_run u s 0 0 k hk).trans (yPar_run u s 0 0 n hn).symm
theorem zman_man (b : Int) : (1 ≤ zman b ∧ zman b ≤ 6 ↔ 0 < yMan b) ∧ (0 < yMan b → zman b = yMan b) := by
  have h : 0 ≤ zman b ∧ zman b ≤ 14 ∧ zman b ≠ 7 ∧ zman b ≠ 8 := by
    unfold zman
    repeat (split; · decide)
    decide
  unfold yMan
  split <;> omega
theorem yRun_len {k : Int} (hk : 0 ≤ k) {u : List Int} (h : yRun 1 u k = -1) : 1 ≤ u.length ∧ u.length ≤ 4 := by
  rcases yShape hk h with ⟨x, rfl, hx⟩ | ⟨x, y, rfl, hx, hy⟩ | ⟨x, y, z, rfl, hx, hy, hz⟩ | ⟨x, y, z, t, rfl, hx, hy, hz, ht⟩ <;> simp only [List.length_cons, List.length_nil] <;> omega
section ZR
variable {L : Nat} {m : Nat → Int → Int} (d : Nat) {t : Int} {w : List Int}
theorem zk_219s (h : yRt m t w) (st en first : Nat) (man : Int) (hen : en ≤ w.length) : ∀ k i : Nat, i + k = en → ∀ r : Int, 0 ≤ r ∧ r ≤ 6 → ∀ o8 o9 o10 : Option zmV, (yRun (yPhi r) ((w.drop i).take (en - i)) i ≠ -1 → zmE (zmD zP (d+3)) zc_219 (59, [some (zr 98), some (zi t), some (zi st), some (zi en), some (zi i), some (zi man), some (zi first), some (zi r), o8, o9, o10], [], zW L m) = some (some (zi (yRun (yPhi r) ((w.drop i).take (en - i)) i)), zW L m)) ∧ (yRun (yPhi r) ((w.drop i).take (en - i)) i = -1 → ∃ o4 o7 o8' o9' o10', zmE (zmD zP (d+3)) zc_219 (59, [some (zr 98), some (zi t), some (zi st), some (zi en), some (zi i), some (zi man), some (zi first), some (zi r), o8, o9, o10], [], zW L m) = (zcv (zmD zP (d + 3)) 222 12 98 [zr 98, zi t, zi first, zi (w32 ((en : Int) - first))] (zW L m)).bind (fun q => zmG (zmD zP (d + 3)) zc_219 (zafter 253 [some (zr 98), some (zi t), some (zi st), some (zi en), some (zi o4), some (zi man), some (zi first), some (zi o7), o8', o9', o10'] [] false q))) := by
  intro k
  have hcap : w.length ≤ 80 := by
    have := h.2.2.1
    unfold yCap at this
    split at this
    · exact this
    · split at this <;> omega
  induction k with
  | zero =>
    intro i hi r hr o8 o9 o10
    have hne : ¬ ((i : Int) < en) := by omega
    rw [show en - i = 0 by omega, List.take_zero, yRun_nil]
    have key : (r = 0 ∨ r = 4 ∨ r = 5) ∨ (r = 1 ∨ r = 2 ∨ r = 3 ∨ r = 6) := by omega
    rcases key with q2 | q2
    · have q1 : yT (yEnds (yPhi r)) = 0 := by rcases q2 with e | e | e <;> subst e <;> exact yEnds_no (by decide)
      rw [q1, if_pos rfl]
      refine ⟨fun _ => ?_, fun q => absurd q (by omega)⟩
      rw [zb_219_59, if_neg hne]
      rcases q2 with e | e | e <;> subst e <;> simp only [Int.reduceEq, if_true, if_false]
    · have q1 : yT (yEnds (yPhi r)) = 1 := by rcases q2 with e | e | e | e <;> subst e <;> exact yEnds_yes (by decide)
      rw [q1, if_neg (show ¬ (1 : Int) = 0 by decide)]
      refine ⟨fun q => absurd rfl q, fun _ => ⟨i, r, o8, o9, o10, ?_⟩⟩
      rw [zb_219_59, if_neg hne]
      rcases q2 with e | e | e | e <;> subst e <;> simp only [Int.reduceEq, if_true, if_false]
  | succ k ih =>
    intro i hi r hr o8 o9 o10
    have hi2 : i < w.length := by omega
    obtain ⟨b, hb⟩ : ∃ b, w.getD i 0 = b := ⟨_, rfl⟩
    have hyb : yGet w i = b := (yGet_at hi2).trans hb
    have step : zmE (zmD zP (d+3)) zc_219 (59, [some (zr 98), some (zi t), some (zi st), some (zi en), some (zi i), some (zi man), some (zi first), some (zi r), o8, o9, o10], [], zW L m) = if yRn r (b) = -1 then some (some (zi i), zW L m) else zmE (zmD zP (d+3)) zc_219 (59, [some (zr 98), some (zi t), some (zi st), some (zi en), some (zi ((i : Int) + 1)), some (zi man), some (zi first), some (zi (yRn r (b))), some (zi (yT (yCl (b)))), some (zi (yT (yRw (b)))), some (zi (yRn r (b)))], [], zW L m) := by
      rw [zb_219_59, if_pos (by omega), zcv_98, zk_197t (d + 1) h _ (by omega), zbs, zmG_v, zb_219_72, zk_220 (d + 1), zbs, zmG_v, zb_219_75, hyb]
      have e84 : (if zcolumn b = -1 then zmE (zmD zP (d+3)) zc_219 (84, [some (zr 98), some (zi t), some (zi st), some (zi en), some (zi i), some (zi man), some (zi first), some (zi r), o8, o9, o10], [zi 0], zW L m) else zmE (zmD zP (d+3)) zc_219 (84, [some (zr 98), some (zi t), some (zi st), some (zi en), some (zi i), some (zi man), some (zi first), some (zi r), o8, o9, o10], [zi 1], zW L m)) = zmE (zmD zP (d+3)) zc_219 (84, [some (zr 98), some (zi t), some (zi st), some (zi en), some (zi i), some (zi man), some (zi first), some (zi r), o8, o9, o10], [zi (yT (yCl b))], zW L m) := by
        rw [← zcolumn_n]
        split <;> rfl
      rw [e84, zb_219_84, zcv_98, zk_197t (d + 1) h _ (by omega), zbs, zmG_v, zb_219_93, zk_221 (d + 1), zbs, zmG_v, zb_219_96, hyb]
      have e105 : (if zrow b = -1 then zmE (zmD zP (d+3)) zc_219 (105, [some (zr 98), some (zi t), some (zi st), some (zi en), some (zi i), some (zi man), some (zi first), some (zi r), some (zi (yT (yCl b))), o9, o10], [zi 0], zW L m) else zmE (zmD zP (d+3)) zc_219 (105, [some (zr 98), some (zi t), some (zi st), some (zi en), some (zi i), some (zi man), some (zi first), some (zi r), some (zi (yT (yCl b))), o9, o10], [zi 1], zW L m)) = zmE (zmD zP (d+3)) zc_219 (105, [some (zr 98), some (zi t), some (zi st), some (zi en), some (zi i), some (zi man), some (zi first), some (zi r), some (zi (yT (yCl b))), o9, o10], [zi (yT (yRw b))], zW L m) := by
        rw [← zrow_n]
        split <;> rfl
      have e152 : zmE (zmD zP (d+3)) zc_219 (105, [some (zr 98), some (zi t), some (zi st), some (zi en), some (zi i), some (zi man), some (zi first), some (zi r), some (zi (yT (yCl b))), o9, o10], [zi (yT (yRw b))], zW L m) = zmE (zmD zP (d+3)) zc_219 (152, [some (zr 98), some (zi t), some (zi st), some (zi en), some (zi i), some (zi man), some (zi first), some (zi r), some (zi (yT (yCl b))), some (zi (yT (yRw b))), o10], [zi (yRa r b)], zW L m) := by
        rw [zb_219_105, zb_219_133]
        unfold yRa
        repeat' split
        all_goals rfl
      have e201 : zmE (zmD zP (d+3)) zc_219 (152, [some (zr 98), some (zi t), some (zi st), some (zi en), some (zi i), some (zi man), some (zi first), some (zi r), some (zi (yT (yCl b))), some (zi (yT (yRw b))), o10], [zi (yRa r b)], zW L m) = zmE (zmD zP (d+3)) zc_219 (201, [some (zr 98), some (zi t), some (zi st), some (zi en), some (zi i), some (zi man), some (zi first), some (zi r), some (zi (yT (yCl b))), some (zi (yT (yRw b))), some (zi (yRa r b))], [zi (yRn r b)], zW L m) := by
        rw [zb_219_152, zb_219_190]
        unfold yRn
        repeat' split
        all_goals rfl
      rw [e105, e152, e201, zb_219_201, w32_of (by omega) (by omega)]
    rw [step]
    have hrn := yRn_phi (b := b) hr
    have hdr : (w.drop i).take (en - i) = b :: (w.drop (i + 1)).take (en - (i + 1)) := by
      rw [ydrop hi2, hb, show en - i = (en - (i + 1)) + 1 by omega, List.take_succ_cons]
    rw [hdr, yRun_cons]
    rcases hrn with ⟨e1, e2⟩ | ⟨e1, e2, e3⟩
    · rw [if_pos e1, if_pos e2]
      exact ⟨fun _ => rfl, fun q => absurd q (by omega)⟩
    · rw [if_neg (c := yRn r b = -1) (by omega), if_neg e2, ← e3]
      have e := ih (i + 1) (by omega) _ e1 (some (zi (yT (yCl (b))))) (some (zi (yT (yRw (b))))) (some (zi (yRn r (b))))
      rw [Int.natCast_succ] at e
      exact e
end ZR
