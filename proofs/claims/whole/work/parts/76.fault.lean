/-! the faults of a game: class and reference -/
noncomputable def yGr : Nat → Int → List Int → Int → Int
  | _, s, [], k => if yT (yEnds s) = 0 then k else -1
  | g, s, b :: w, k => if b = 59 ∧ yT (yEnds s) ≠ 0 then (if g = 0 then k + 1 else yGr (g - 1) 0 w (k + 1)) else if yNext s b = 7 then k else yGr g (yNext s b) w (k + 1)
theorem yGr_nil {g : Nat} {s k : Int} : yGr g s [] k = if yT (yEnds s) = 0 then k else -1 := by unfold yGr; rfl
theorem yGr_cons {g : Nat} {s b k : Int} {w : List Int} : yGr g s (b :: w) k = if b = 59 ∧ yT (yEnds s) ≠ 0 then (if g = 0 then k + 1 else yGr (g - 1) 0 w (k + 1)) else if yNext s b = 7 then k else yGr g (yNext s b) w (k + 1) := by rw [yGr]
theorem yNext_59 {s : Int} : yNext s 59 = 7 := by
  have h1 : yT (yCl 59) = 0 := yT_neg (by unfold yCl; omega)
  have h2 : yT (yRw 59) = 0 := yT_neg (by unfold yRw; omega)
  have h3 : ¬ 0 < yMan 59 := by decide
  unfold yNext
  rw [h1, h2, if_neg h3, if_pos rfl, if_pos rfl]
  repeat' split
  all_goals first | rfl | omega
theorem yGr_app {g : Nat} : ∀ (p r : List Int) (s k : Int), 0 ≤ k → (∀ x ∈ p, x ≠ 59) → (r = [] ∨ ∃ q, r = 59 :: q) → yGr g s (p ++ r) k = if yRun s p k = -1 then (match r with | [] => -1 | _ :: q => if g = 0 then k + p.length + 1 else yGr (g - 1) 0 q (k + p.length + 1)) else yRun s p k
  | [], r, s, k, hk, hp, hr => by
    rw [List.nil_append, yRun_nil, List.length_nil, Int.natCast_zero, Int.add_zero]
    rcases hr with rfl | ⟨q, rfl⟩
    · rw [yGr_nil]
      by_cases g0 : yT (yEnds s) = 0
      · rw [if_pos g0, if_neg (by omega)]
      · rw [if_neg g0, if_pos rfl]
    · rw [yGr_cons, yNext_59, if_pos rfl]
      by_cases g0 : yT (yEnds s) = 0
      · rw [if_neg (fun q => q.2 g0), if_pos g0, if_neg (by omega)]
      · rw [if_pos ⟨rfl, g0⟩, if_neg g0, if_pos rfl]
  | b :: p, r, s, k, hk, hp, hr => by
    rw [List.cons_append, yGr_cons, yRun_cons, if_neg (fun q => hp b List.mem_cons_self q.1)]
    by_cases g0 : yNext s b = 7
    · rw [if_pos g0, if_pos g0, if_neg (by omega)]
    · rw [if_neg g0, if_neg g0, yGr_app p r (yNext s b) (k + 1) (by omega) (fun x hx => hp x (List.mem_cons_of_mem _ hx)) hr, List.length_cons]
      have e : k + 1 + (p.length : Int) = k + ((p.length + 1 : Nat) : Int) := by omega
      rw [e]
/-- a text cut at each sign of parting -/
def yPcs : List Int → List (List Int)
  | [] => [[]]
  | b :: w => if b = 59 then [] :: yPcs w else match yPcs w with | [] => [[b]] | p :: ps => (b :: p) :: ps
theorem yPcs_app : ∀ (p r : List Int), (∀ x ∈ p, x ≠ 59) → (r = [] ∨ ∃ q, r = 59 :: q) → yPcs (p ++ r) = match r with | [] => [p] | _ :: q => p :: yPcs q
  | [], r, hp, hr => by
    rcases hr with rfl | ⟨q, rfl⟩
    · rfl
    · rw [List.nil_append, yPcs, if_pos rfl]
  | b :: p, r, hp, hr => by
    rw [List.cons_append, yPcs, if_neg (hp b List.mem_cons_self), yPcs_app p r (fun x hx => hp x (List.mem_cons_of_mem _ hx)) hr]
    rcases hr with rfl | ⟨q, rfl⟩ <;> rfl
/-- where a part begins -/
def yOff : List (List Int) → Nat → Nat
  | _, 0 => 0
  | [], _ + 1 => 0
  | p :: ps, j + 1 => p.length + 1 + yOff ps j
noncomputable def yGf (w : List Int) : Int := if w = [] then -1 else yGr 11 0 w 0
section ZR
variable {L : Nat} {m : Nat → Int → Int} (D : Nat) {w : Int → List Int} {b : Int → Int} {c n e : Int} {W F : Int → Int} {Z : Int → List Int}
theorem zk_61 {t C : Nat} {w : List Int} (h : yTo L t C) (hw : yTw m t C w) (hX : yTxt m) : zmD zP (D + 7) 61 [zr t] (zW L m) = some (some (zi (yGf w)), zW L m) := by
  have hC := h.2.2
  have hl := hw.2.1
  rw [zen_61, zb_61_0, yoc h, zk_22 (D + 5) h hw, zbs, zmG_v, zb_61_4]
  unfold yGf
  by_cases g0 : w = []
  · rw [if_pos g0, if_pos (by rw [g0]; rfl)]
  have hne : w.length ≠ 0 := fun q => g0 (List.length_eq_zero_iff.mp q)
  rw [if_neg g0, if_neg (by omega)]
  suffices go : ∀ k i : Nat, i + k = w.length → ∀ (g : Nat) (s cc : Int) (o4 : Option zmV), cc + g = 12 → 1 ≤ cc → zmE (zmD zP (D+6)) zc_61 (15, [some (zr t), some (zi s), some (zi cc), some (zi i), o4], [], zW L m) = some (some (zi (yGr g s (w.drop i) i)), zW L m) from go w.length 0 (by omega) 11 0 1 none (by omega) (by omega)
  intro k
  induction k with
  | zero =>
    intro i hi g s cc o4 hg hc
    rw [zb_61_15, yoc h, zk_22 (D + 5) h hw, zbs, zmG_v, zb_61_20, if_neg (by omega), zk_60, zbs, zmG_v, zb_61_84, List.drop_eq_nil_of_le (by omega), yGr_nil]
    by_cases g1 : yT (yEnds s) = 0
    · rw [if_pos g1, if_pos g1, yoc h, zk_22 (D + 5) h hw, zbs, zmG_v, zb_61_95, show i = w.length by omega]
    · rw [if_neg g1, if_neg g1, zb_61_95]
  | succ k ih =>
    intro i hi g s cc o4 hg hc
    have hb := (hw.2.2 i (by omega)).2
    rw [zb_61_15, yoc h, zk_22 (D + 5) h hw, zbs, zmG_v, zb_61_20, if_pos (by omega), yoc h, zk_23 (D + 5) h hw, zbs, zmG_v, yGet_at (by omega), zb_61_28, ydrop (by omega), yGr_cons]
    have step : ∀ o4 : Option zmV, ¬ (w.getD i 0 = 59 ∧ yT (yEnds s) ≠ 0) → zmE (zmD zP (D+6)) zc_61 (59, [some (zr t), some (zi s), some (zi cc), some (zi i), some (zi (w.getD i 0))], [], zW L m) = some (some (zi (if w.getD i 0 = 59 ∧ yT (yEnds s) ≠ 0 then (if g = 0 then (i : Int) + 1 else yGr (g - 1) 0 (w.drop (i + 1)) ((i : Int) + 1)) else if yNext s (w.getD i 0) = 7 then (i : Int) else yGr g (yNext s (w.getD i 0)) (w.drop (i + 1)) ((i : Int) + 1))), zW L m) := fun o4 q => by
      rw [if_neg q, zb_61_59, zk_57 D hX s _ hb, zbs, zmG_v, zb_61_65]
      by_cases g7 : yNext s (w.getD i 0) = 7
      · rw [if_pos g7, if_pos g7]
      · rw [if_neg g7, if_neg g7, zb_61_74, w32_of (z := (i : Int) + 1) (by omega) (by omega)]
        exact ih (i + 1) (by omega) g _ cc _ hg hc
    by_cases g1 : w.getD i 0 = 59
    · rw [if_pos g1, zk_60, zbs, zmG_v, zb_61_41]
      by_cases g2 : yT (yEnds s) = 0
      · rw [if_pos g2, step none (fun q => q.2 g2)]
      · rw [if_neg g2, if_pos (c := w.getD i 0 = 59 ∧ yT (yEnds s) ≠ 0) ⟨g1, g2⟩, w32_of (z := cc + 1) (by omega) (by omega), w32_of (z := (i : Int) + 1) (by omega) (by omega)]
        by_cases g3 : g = 0
        · rw [if_pos (by omega), if_pos g3]
        · rw [if_neg (by omega), if_neg g3, zb_61_74, w32_of (z := (i : Int) + 1) (by omega) (by omega)]
          exact ih (i + 1) (by omega) (g - 1) 0 (cc + 1) _ (by omega) (by omega)
    · rw [if_neg g1, step none (fun q => g1 q.1)]
noncomputable def yFault (w : Int → List Int) (t : Int) : Int := if t = 0 then (yHome (w 0)).1 else if t = 1 then yRun 0 (w 1) 0 else if t = 2 then yGf (w 2) else -2
theorem yk_55 (h : yCs m w b c n e W F Z) (t : Int) : ∃ m', zmD zP (D + 8) 55 [zr 0, zi t] (zW L m) = some (some (zi (yFault w t)), zW L m') ∧ yFr 0 97 m m' ∧ yCs m' w b c n e W F Z := by
  refine ⟨m, ?_, yFr_rfl, h⟩
  have hX := h.2.2.2.2.1.1
  unfold yFault
  rw [zen_55, zb_55_0]
  by_cases g0 : t = 0
  · rw [if_pos g0, if_pos g0, zgi_0, zbs, h.2.2.1.1]
  rw [if_neg g0, if_neg g0]
  by_cases g1 : t = 1
  · rw [if_pos g1, if_pos g1, zgr_0_0, zbs, zar_1_1, zbs, zk_56 D yTo_4 h.1.2.1 hX, zbs, zmG_v, zb_55_42]
  rw [if_neg g1, if_neg g1]
  by_cases g2 : t = 2
  · rw [if_pos g2, if_pos g2, zgr_0_0, zbs, zar_1_2, zbs, zk_61 D yTo_6 h.1.2.2 hX, zbs, zmG_v, zb_55_52]
  · rw [if_neg g2, if_neg g2]
end ZR
