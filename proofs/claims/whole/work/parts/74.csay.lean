/-! shortest, all, means, could of the class -/
def yShS (b : Int → Int) (xs : List Int) (v : Int) : List Int := ySay (yForm (yFm b xs v 10)) (b (v / 64) % 8 - 1) v
def yDif (s u : List Int) : Nat → Nat
  | 0 => 0
  | k + 1 => yDif s u k + if s.getD k 0 = u.getD k 0 then 0 else 1
def yNear (u s : List Int) : Prop := s.length = u.length ∧ yDif s u u.length = 1
noncomputable def yMean (b : Int → Int) (u : List Int) : Int → Bool := fun v => decide (yT (yFits u (b (v / 64) % 8 - 1) v) = 1)
noncomputable def yCould (b : Int → Int) (xs : List Int) (u : List Int) : Int → Bool := fun v => decide (yT (yNear u (yShS b xs v)) = 1)
theorem yT_1 {p : Prop} : decide (yT p = 1) = true ↔ p := by
  rw [decide_eq_true_iff]
  constructor
  · intro h
    apply Classical.byContradiction
    intro h2
    rw [yT_neg h2] at h
    exact absurd h (by decide)
  · exact yT_pos
def yAsk (ys : List Int) (i : Int) : Int := if i < -1 then -2 else if i = -1 then ys.length else yGet ys i
def ySumL (f : Int → Int) : List Int → Int
  | [] => 0
  | x :: xs => f x + ySumL f xs
theorem ySumL_take {f : Int → Int} {xs : List Int} {k : Nat} (h : k < xs.length) : ySumL f (xs.take (k + 1)) = ySumL f (xs.take k) + f (xs.getD k 0) := by
  have e : ∀ (l : List Int) (x : Int), ySumL f (l ++ [x]) = ySumL f l + f x := by
    intro l x
    induction l with
    | nil =>
      show f x + 0 = 0 + f x
      omega
    | cons a l ih =>
      show f a + ySumL f (l ++ [x]) = f a + ySumL f l + f x
      rw [ih]
      omega
  rw [List.take_succ, List.getD_eq_getElem?_getD, List.getElem?_eq_getElem h]
  exact e _ _
theorem ySumL_in {f : Int → Int} {c : Int} (xs : List Int) (h : ∀ x ∈ xs, 0 ≤ f x ∧ f x ≤ c) : 0 ≤ ySumL f xs ∧ ySumL f xs ≤ c * xs.length := by
  induction xs with
  | nil => exact ⟨Int.le_refl 0, by show (0 : Int) ≤ c * ((0 : Nat) : Int); rw [Int.natCast_zero]; omega⟩
  | cons x xs ih =>
    have h1 := h x (List.mem_cons_self ..)
    have h2 := ih fun y hy => h y (List.mem_cons_of_mem _ hy)
    rw [List.length_cons, Int.natCast_succ, Int.mul_add]
    show 0 ≤ f x + ySumL f xs ∧ f x + ySumL f xs ≤ _
    omega
theorem yfilt_take {xs : List Int} {p : Int → Bool} {k : Nat} (h : k < xs.length) : (xs.take (k + 1)).filter p = (xs.take k).filter p ++ if p (xs.getD k 0) = true then [xs.getD k 0] else [] := by
  rw [List.take_succ, List.getD_eq_getElem?_getD, List.getElem?_eq_getElem h, List.filter_append]
  show _ ++ List.filter p [xs[k]] = _
  rw [List.filter_cons]
  rfl
theorem yPick {xs : List Int} {p : Int → Bool} {k : Nat} (h : k < xs.length) (hp : p (xs.getD k 0) = true) : yGet (xs.filter p) (((xs.take k).filter p).length : Nat) = xs.getD k 0 := by
  have e : xs.filter p = (xs.take k).filter p ++ xs.getD k 0 :: (xs.drop (k + 1)).filter p := by
    have e1 : xs = xs.take k ++ (xs.getD k 0 :: xs.drop (k + 1)) := by
      rw [← ydrop h, List.take_append_drop]
    have e2 := congrArg (List.filter p) e1
    rw [List.filter_append, List.filter_cons, if_pos hp] at e2
    exact e2
  rw [e]
  unfold yGet
  rw [List.length_append, List.length_cons, if_pos (by omega), Int.toNat_natCast, List.getD_eq_getElem?_getD, List.getElem?_append_right (Nat.le_refl _), Nat.sub_self]
  rfl
theorem yNs_in {b : Int → Int} {xs : List Int} {v : Int} : 1 ≤ yNs b xs v ∧ yNs b xs v ≤ 4 := by
  unfold yNs
  rcases yFm_lt (b := b) (xs := xs) (v := v) 10 with q | q
  · rw [q]
    decide
  · have := tPop_in (yFm b xs v 10).toNat (by omega)
    rw [show (((yFm b xs v 10).toNat : Nat) : Int) = yFm b xs v 10 by omega] at this
    exact this
/-- the signs of a shortest saying are as many as told -/
theorem yShS_len {b : Int → Int} {xs : List Int} {v : Int} : ((yShS b xs v).length : Int) = yNs b xs v := by
  unfold yShS yNs
  have key : ∀ n : Nat, n < 11 → ∃ w, w < 12 ∧ yWp w = yForm n := fun n hn => by
    have : n = 0 ∨ n = 1 ∨ n = 2 ∨ n = 3 ∨ n = 4 ∨ n = 5 ∨ n = 6 ∨ n = 7 ∨ n = 8 ∨ n = 9 ∨ n = 10 := by omega
    rcases this with e | e | e | e | e | e | e | e | e | e | e <;> subst e
    · exact ⟨2, by decide, rfl⟩
    · exact ⟨0, by decide, rfl⟩
    · exact ⟨3, by decide, rfl⟩
    · exact ⟨1, by decide, rfl⟩
    · exact ⟨4, by decide, rfl⟩
    · exact ⟨8, by decide, rfl⟩
    · exact ⟨5, by decide, rfl⟩
    · exact ⟨6, by decide, rfl⟩
    · exact ⟨9, by decide, rfl⟩
    · exact ⟨7, by decide, rfl⟩
    · exact ⟨10, by decide, rfl⟩
  have hf : ∃ n : Nat, n < 11 ∧ yFm b xs v 10 = n := by
    rcases yFm_lt (b := b) (xs := xs) (v := v) 10 with q | q
    · exact ⟨10, by decide, by rw [q]; rfl⟩
    · exact ⟨(yFm b xs v 10).toNat, by omega, by omega⟩
  obtain ⟨n, h1, h2⟩ := hf
  obtain ⟨w, h3, h4⟩ := key n h1
  rw [h2, ← h4]
  exact (ySay_len h3).1
section ZR
variable {L : Nat} {m m' : Nat → Int → Int} (D : Nat) {w : Int → List Int} {b : Int → Int} {c n e : Int} {W F : Int → Int} {Z : Int → List Int}
theorem yk_116 (h : yCs m w b c n e W F Z) (v i : Int) : ∃ m', zmD zP (D + 8) 116 [zr 0, zi v, zi i] (zW L m) = some (some (zi (if (0 ≤ v ∧ v < 4096) ∧ -1 ≤ i then (if yT (v ∈ yMv b c) = 0 then -3 else if i = -1 then yNs b (yMv b c) v else yGet (yShS b (yMv b c) v) i) else -2)), zW L m') ∧ yFr 0 97 m m' ∧ yCs m' w b c n e W F Z := by
  rw [zen_116, zb_116_0, zk_101, zbs, zmG_v, zb_116_4]
  by_cases g : 0 ≤ v ∧ v < 4096
  · rw [if_pos g, if_pos rfl]
    by_cases g2 : i < -1
    · rw [if_pos g2, if_neg (by omega)]
      exact ⟨m, rfl, yFr_rfl, h⟩
    · obtain ⟨M, p, r1, r2, r3, r4, r5⟩ := yk_102 (L := L) (D + 1) h v
      have hok := yPu_ok (yCs_pu h)
      have hle := yMv_le (b := b) (c := c) (yCs_pu h).2.2.2
      rw [if_neg g2, if_pos (show (0 ≤ v ∧ v < 4096) ∧ -1 ≤ i from ⟨g, by omega⟩), zcv_0, r1, zbs, zmG_v, zb_116_20]
      refine ⟨M, ?_, yFq_pl r2, r3⟩
      rcases r5 with ⟨q1, q2⟩ | ⟨j, q1, q2, q3⟩
      · rw [if_pos q1, yT_neg q2, if_pos rfl]
      · have hl : M 13 3 = (yMv b c).length := r4.1.1
        have hin : 0 ≤ (j : Int) ∧ (j : Int) < M 13 3 := by rw [hl]; omega
        rw [if_neg (by omega), yT_pos (yMem_get.mpr ⟨j, q2, q3⟩), if_neg (c := (1 : Int) = 0) (by decide), q1]
        by_cases g3 : i = -1
        · rw [if_pos g3, if_pos g3, zgr_0_5, zbs, zcv_13, zk_117 (D + 5) yLs_13 (by rw [hl]; omega) r3.2.1.1.1, zbs, zmG_v, zb_116_42, zb_116_54, if_pos hin]
          have e1 := r4.2 j q2
          rw [q3] at e1
          show some (some (zi (yPop (yForm (M (13 + 3) j)))), zW L M) = _
          rw [e1]
          rfl
        · rw [if_neg g3, if_neg g3, zgr_0_5, zbs, zcv_13, zk_118 D yLs_13 r3.2.1.1.1 r3.2.2.2.2.1.1 r4.1 (by omega) hok j q2, zbs, zmG_v, zb_116_54, r4.2 j q2, q3]
          rfl
  · rw [if_neg g, if_neg (c := (1 : Int) = 0) (by decide), if_neg (fun q => g q.1)]
    exact ⟨m, rfl, yFr_rfl, h⟩
theorem yk_121 (h : yCs m w b c n e W F Z) : ∃ m', zmD zP (D + 6) 121 [zr 0] (zW L m) = some (some (zi (ySumL (yNs b (yMv b c)) (yMv b c))), zW L m') ∧ yFr 0 97 m m' ∧ yCs m' w b c n e W F Z := by
  obtain ⟨M, r1, r2, r3, r4⟩ := yk_74 (L := L) D h
  have hl : M 13 3 = (yMv b c).length := r4.1.1
  have hle := yMv_le (b := b) (c := c) (yCs_pu h).2.2.2
  rw [zen_121, zb_121_0, zcv_0, r1, zbs, zmG_n, zb_121_4]
  suffices go : ∀ k i : Nat, i + k = (yMv b c).length → zmE (zmD zP (D+5)) zc_121 (8, [some (zr 0), some (zi (ySumL (yNs b (yMv b c)) ((yMv b c).take i))), some (zi i)], [], zW L M) = some (some (zi (ySumL (yNs b (yMv b c)) (yMv b c))), zW L M) from ⟨M, go (yMv b c).length 0 (by omega), yFq_pl r2, r3⟩
  intro k
  induction k with
  | zero =>
    intro i hi
    rw [zb_121_8, zgr_0_5, zbs, zcv_13, zk_90 (D + 4) yLs_13, zbs, zmG_v, zb_121_16, hl, if_neg (by omega), show i = (yMv b c).length by omega, List.take_length]
  | succ k ih =>
    intro i hi
    have hin : 0 ≤ (i : Int) ∧ (i : Int) < M 13 3 := by rw [hl]; omega
    have hs := ySumL_in (f := yNs b (yMv b c)) (c := 4) ((yMv b c).take i) fun x _ => by have := yNs_in (b := b) (xs := yMv b c) (v := x); omega
    have hli : ((yMv b c).take i).length ≤ 512 := by rw [List.length_take]; omega
    have hn := yNs_in (b := b) (xs := yMv b c) (v := (yMv b c).getD i 0)
    have e1 : yPop (yForm (M (13 + 3) i)) = yNs b (yMv b c) ((yMv b c).getD i 0) := by
      rw [r4.2 i (by omega)]
      rfl
    rw [zb_121_8, zgr_0_5, zbs, zcv_13, zk_90 (D + 4) yLs_13, zbs, zmG_v, zb_121_16, hl, if_pos (by omega), zgr_0_5, zbs, zcv_13, zk_117 (D + 3) yLs_13 (by rw [hl]; omega) r3.2.1.1.1, zbs, zmG_v, zb_121_28, if_pos hin, e1, w32_of (by omega) (by omega), w32_of (by omega) (by omega), ← ySumL_take (f := yNs b (yMv b c)) (show i < (yMv b c).length by omega)]
    have q := ih (i + 1) (by omega)
    rw [Int.natCast_succ] at q
    exact q
theorem yk_122 (h : yCs m w b c n e W F Z) (i : Int) : ∃ m', zmD zP (D + 8) 122 [zr 0, zi i] (zW L m) = some (some (zi (yAsk ((yMv b c).filter (yMean b (w 1))) i)), zW L m') ∧ yFr 0 97 m m' ∧ yCs m' w b c n e W F Z := by
  rw [zen_122, zb_122_0]
  unfold yAsk
  by_cases g : i < -1
  · rw [if_pos g, if_pos g]
    exact ⟨m, rfl, yFr_rfl, h⟩
  rw [if_neg g, if_neg g]
  obtain ⟨M, r1, r2, r3, r4⟩ := yk_74 (L := L) (D + 2) h
  have hok := yPu_ok (yCs_pu h)
  have hle := yMv_le (b := b) (c := c) (yCs_pu h).2.2.2
  have hw1 := r3.1.2.1
  have hs := hw1.2.1
  obtain ⟨M2, s1, s2, s3, s4, s5⟩ := zk_123 (L := L) (m := M) D yTo_4 hw1 r3.2.2.2.2.1.1 zh_12 (by decide) (by decide) 0 (w 1).length (Nat.zero_le _) (Nat.le_refl _)
  rw [List.drop_zero, Nat.sub_zero, List.take_length] at s3 s4 s5
  have F2 : yFq (fun x _ => x = 12) M M2 := yFq_fr s2 fun x j x1 x2 => by omega
  have r3' : yCs M2 w b c n e W F Z := yCs_fr r3 F2 fun x j q q2 => by unfold yHold at q; omega
  have r4' : yNm2 M2 13 b (yMv b c) := yNm2_fr r4 s2 (.inr (by decide))
  have hl : M2 13 3 = (yMv b c).length := r4'.1.1
  have hfit : ∀ j : Nat, j < (yMv b c).length → yT (yFitC M2 12 (b ((yMv b c).getD j 0 / 64) % 8 - 1) ((yMv b c).getD j 0)) = yT (yFits (w 1) (b ((yMv b c).getD j 0 / 64) % 8 - 1) ((yMv b c).getD j 0)) := fun j _ => by
    refine yT_c ?_
    unfold yFitC yFits
    rw [s3, s4, s5]
    constructor
    · rintro ⟨q1, q2⟩
      refine ⟨Classical.byContradiction fun q => q1 (yT_neg q), q2⟩
    · rintro ⟨q1, q2⟩
      exact ⟨by rw [yT_pos q1]; decide, q2⟩
  have e123 : zmD zP (D + 7) 123 [zr 12, zr 4, zi 0, zi (w 1).length] (zW L M) = some (none, zW L M2) := s1
  rw [zcv_0, r1, zbs, zmG_n, zb_122_12, zgr_0_4, zbs, zgr_0_0, zbs, zar_1_1, zbs, zbs, zar_1_1, zbs, yoc yTo_4, zk_22 (D + 6) yTo_4 hw1, zbs, zmG_v, zb_122_32, zcv_12, e123, zbs, zmG_n, zb_122_35]
  suffices go : ∀ k j : Nat, j + k = (yMv b c).length → (i = -1 ∨ ((((yMv b c).take j).filter (yMean b (w 1))).length : Int) ≤ i) → zmE (zmD zP (D+7)) zc_122 (39, [some (zr 0), some (zi i), some (zi ((((yMv b c).take j).filter (yMean b (w 1))).length)), some (zi j)], [], zW L M2) = some (some (zi (if i = -1 then ((yMv b c).filter (yMean b (w 1))).length else yGet ((yMv b c).filter (yMean b (w 1))) i)), zW L M2) from ⟨M2, go (yMv b c).length 0 (by omega) (by rw [List.take_zero, List.filter_nil, List.length_nil]; omega), yFr_tr (yFq_pl r2) (yFr_wd s2 (by decide) (by decide)), r3'⟩
  intro k
  induction k with
  | zero =>
    intro j hj hi
    rw [zb_122_39, zgr_0_5, zbs, zcv_13, zk_90 (D + 6) yLs_13, zbs, zmG_v, zb_122_47, hl, if_neg (by omega)]
    rw [show j = (yMv b c).length by omega, List.take_length] at hi ⊢
    by_cases g2 : i = -1
    · rw [if_pos g2, if_pos g2]
    · unfold yGet
      rw [if_neg g2, if_neg g2, if_neg (by omega)]
  | succ k ih =>
    intro j hj hi
    have hin : 0 ≤ (j : Int) ∧ (j : Int) < M2 13 3 := by rw [hl]; omega
    obtain ⟨o1, o2, o3⟩ := yOkv_get hok (i := j) (by omega)
    obtain ⟨e1, e2⟩ := r4'.1.2 j (by omega)
    have hfl := List.length_filter_le (yMean b (w 1)) ((yMv b c).take j)
    rw [List.length_take] at hfl
    have q := ih (j + 1) (by omega)
    rw [yfilt_take (by omega), List.length_append, Int.natCast_succ, Int.natCast_add] at q
    rw [zb_122_39, zgr_0_5, zbs, zcv_13, zk_90 (D + 6) yLs_13, zbs, zmG_v, zb_122_47, hl, if_pos (by omega), zgr_0_4, zbs, zgr_0_5, zbs, zcv_13, zk_96 (D + 6) yLs_13 (by rw [hl]; omega), zbs, zmG_v, zb_122_62, zgr_0_5, zbs, zcv_13, zk_97 (D + 6) yLs_13 (by rw [hl]; omega), zbs, zmG_v, zb_122_70, if_pos hin, if_pos hin]
    have e1' : M2 (13 + 1) j = (yMv b c).getD j 0 := e1
    have e2' : M2 (13 + 2) j = b ((yMv b c).getD j 0 / 64) % 8 - 1 := e2
    rw [e1', e2', zcv_12, zk_85 (D + 5) zh_12 _ _ ⟨by omega, by omega⟩ o1, zbs, zmG_v, zb_122_73, hfit j (by omega)]
    have hpm : yMean b (w 1) ((yMv b c).getD j 0) = true ↔ yFits (w 1) (b ((yMv b c).getD j 0 / 64) % 8 - 1) ((yMv b c).getD j 0) := yT_1
    by_cases g2 : yFits (w 1) (b ((yMv b c).getD j 0 / 64) % 8 - 1) ((yMv b c).getD j 0)
    · rw [if_pos (hpm.mpr g2)] at q
      rw [yT_pos g2, if_neg (c := (1 : Int) = 0) (by decide)]
      by_cases g3 : ((((yMv b c).take j).filter (yMean b (w 1))).length : Int) = i
      · have hp := yPick (xs := yMv b c) (p := yMean b (w 1)) (k := j) (by omega) (hpm.mpr g2)
        rw [g3] at hp
        rw [if_pos g3, zgr_0_5, zbs, zcv_13, zk_97 (D + 6) yLs_13 (by rw [hl]; omega), zbs, zmG_v, zb_122_89, if_pos hin, e1', if_neg (by omega), hp]
      · rw [if_neg g3, zb_122_93, w32_of (by omega) (by omega), w32_of (by omega) (by omega)]
        exact q (by show i = -1 ∨ _ + ((1 : Nat) : Int) ≤ i; omega)
    · rw [if_neg (fun k => g2 (hpm.mp k))] at q
      rw [yT_neg g2, if_pos rfl, zb_122_93, w32_of (by omega) (by omega)]
      have q' := q (by show i = -1 ∨ _ + ((0 : Nat) : Int) ≤ i; omega)
      rw [show ((([] : List Int).length : Nat) : Int) = 0 from rfl, Int.add_zero] at q'
      exact q'
theorem yDif_le {s u : List Int} : ∀ k, yDif s u k ≤ k
  | 0 => Nat.le_refl 0
  | k + 1 => by
    have := yDif_le (s := s) (u := u) k
    unfold yDif
    split <;> omega
theorem yk_126 (h : yCs m w b c n e W F Z) (hN : yNm2 m 13 b (yMv b c)) (j : Nat) (hj : j < (yMv b c).length) : zmD zP (D + 8) 126 [zr 0, zi j] (zW L m) = some (some (zi (yT (yNear (w 1) (yShS b (yMv b c) ((yMv b c).getD j 0))))), zW L m) := by
  have hok := yPu_ok (yCs_pu h)
  have hle := yMv_le (b := b) (c := c) (yCs_pu h).2.2.2
  have hl : m 13 3 = (yMv b c).length := hN.1.1
  have hin : 0 ≤ (j : Int) ∧ (j : Int) < m 13 3 := by rw [hl]; omega
  have hw1 := h.1.2.1
  have hs := hw1.2.1
  have e1 : yPop (yForm (m (13 + 3) j)) = ((yShS b (yMv b c) ((yMv b c).getD j 0)).length : Int) := by
    rw [yShS_len, hN.2 j hj]
    rfl
  have sg : ∀ c2, yGet (ySay (yForm (m (13 + 3) j)) (b ((yMv b c).getD j 0 / 64) % 8 - 1) ((yMv b c).getD j 0)) c2 = yGet (yShS b (yMv b c) ((yMv b c).getD j 0)) c2 := fun c2 => by
    rw [hN.2 j hj]
    rfl
  generalize hS : yShS b (yMv b c) ((yMv b c).getD j 0) = S at *
  unfold yNear
  rw [zen_126, zb_126_0, zgr_0_0, zbs, zar_1_1, zbs, zgr_0_5, zbs, zcv_13, zk_117 (D + 5) yLs_13 (by rw [hl]; omega) h.2.1.1.1, zbs, zmG_v, zb_126_15, yoc yTo_4, zk_22 (D + 6) yTo_4 hw1, zbs, zmG_v, zb_126_19, if_pos hin, e1]
  by_cases g : S.length = (w 1).length
  · rw [if_pos (by omega)]
    suffices go : ∀ k a : Nat, a + k = (w 1).length → zmE (zmD zP (D+7)) zc_126 (29, [some (zr 0), some (zi j), some (zr 4), some (zi (yDif S (w 1) a)), some (zi a)], [], zW L m) = some (some (zi (yT (S.length = (w 1).length ∧ yDif S (w 1) (w 1).length = 1))), zW L m) from go (w 1).length 0 (by omega)
    intro k
    induction k with
    | zero =>
      intro a ha
      rw [zb_126_29, yoc yTo_4, zk_22 (D + 6) yTo_4 hw1, zbs, zmG_v, zb_126_35, if_neg (by omega), show a = (w 1).length by omega]
      by_cases g2 : yDif S (w 1) (w 1).length = 1
      · rw [if_pos (by omega), yT_pos ⟨g, g2⟩]
      · rw [if_neg (by omega), yT_neg (fun q => g2 q.2)]
    | succ k ih =>
      intro a ha
      have hd := yDif_le (s := S) (u := w 1) a
      have q := ih (a + 1) (by omega)
      have ed : yDif S (w 1) (a + 1) = yDif S (w 1) a + if S.getD a 0 = (w 1).getD a 0 then 0 else 1 := rfl
      rw [ed, Int.natCast_succ, Int.natCast_add] at q
      rw [zb_126_29, yoc yTo_4, zk_22 (D + 6) yTo_4 hw1, zbs, zmG_v, zb_126_35, if_pos (by omega), zgr_0_5, zbs, zcv_13, zk_118 D yLs_13 h.2.1.1.1 h.2.2.2.2.1.1 hN.1 (by omega) hok j hj, zbs, zmG_v, zb_126_48, yoc yTo_4, zk_23 (D + 6) yTo_4 hw1, zbs, zmG_v, zb_126_54, sg, yGet_at (by omega), yGet_at (by omega)]
      by_cases g2 : S.getD a 0 = (w 1).getD a 0
      · rw [if_pos g2] at q
        rw [if_pos g2, zb_126_60, w32_of (by omega) (by omega)]
        rw [show ((0 : Nat) : Int) = 0 from rfl, Int.add_zero] at q
        exact q
      · rw [if_neg g2] at q
        rw [if_neg g2, zb_126_60, w32_of (by omega) (by omega), w32_of (by omega) (by omega)]
        exact q
  · rw [if_neg (by omega), yT_neg (fun q => g q.1)]
theorem yk_125 (h : yCs m w b c n e W F Z) (i : Int) : ∃ m', zmD zP (D + 9) 125 [zr 0, zi i] (zW L m) = some (some (zi (yAsk ((yMv b c).filter (yCould b (yMv b c) (w 1))) i)), zW L m') ∧ yFr 0 97 m m' ∧ yCs m' w b c n e W F Z := by
  rw [zen_125, zb_125_0]
  unfold yAsk
  by_cases g : i < -1
  · rw [if_pos g, if_pos g]
    exact ⟨m, rfl, yFr_rfl, h⟩
  rw [if_neg g, if_neg g]
  obtain ⟨M, r1, r2, r3, r4⟩ := yk_74 (L := L) (D + 3) h
  have hle := yMv_le (b := b) (c := c) (yCs_pu h).2.2.2
  have hl : M 13 3 = (yMv b c).length := r4.1.1
  rw [zcv_0, r1, zbs, zmG_n, zb_125_12]
  suffices go : ∀ k j : Nat, j + k = (yMv b c).length → (i = -1 ∨ ((((yMv b c).take j).filter (yCould b (yMv b c) (w 1))).length : Int) ≤ i) → zmE (zmD zP (D+8)) zc_125 (16, [some (zr 0), some (zi i), some (zi ((((yMv b c).take j).filter (yCould b (yMv b c) (w 1))).length)), some (zi j)], [], zW L M) = some (some (zi (if i = -1 then ((yMv b c).filter (yCould b (yMv b c) (w 1))).length else yGet ((yMv b c).filter (yCould b (yMv b c) (w 1))) i)), zW L M) from ⟨M, go (yMv b c).length 0 (by omega) (by rw [List.take_zero, List.filter_nil, List.length_nil]; omega), yFq_pl r2, r3⟩
  intro k
  induction k with
  | zero =>
    intro j hj hi
    rw [zb_125_16, zgr_0_5, zbs, zcv_13, zk_90 (D + 7) yLs_13, zbs, zmG_v, zb_125_24, hl, if_neg (by omega)]
    rw [show j = (yMv b c).length by omega, List.take_length] at hi ⊢
    by_cases g2 : i = -1
    · rw [if_pos g2, if_pos g2]
    · unfold yGet
      rw [if_neg g2, if_neg g2, if_neg (by omega)]
  | succ k ih =>
    intro j hj hi
    have hin : 0 ≤ (j : Int) ∧ (j : Int) < M 13 3 := by rw [hl]; omega
    have e1' : M (13 + 1) j = (yMv b c).getD j 0 := (r4.1.2 j (by omega)).1
    have hfl := List.length_filter_le (yCould b (yMv b c) (w 1)) ((yMv b c).take j)
    rw [List.length_take] at hfl
    have q := ih (j + 1) (by omega)
    rw [yfilt_take (by omega), List.length_append, Int.natCast_succ, Int.natCast_add] at q
    rw [zb_125_16, zgr_0_5, zbs, zcv_13, zk_90 (D + 7) yLs_13, zbs, zmG_v, zb_125_24, hl, if_pos (by omega), zcv_0, yk_126 D r3 r4 j (by omega), zbs, zmG_v, zb_125_32]
    have hpm : yCould b (yMv b c) (w 1) ((yMv b c).getD j 0) = true ↔ yNear (w 1) (yShS b (yMv b c) ((yMv b c).getD j 0)) := yT_1
    by_cases g2 : yNear (w 1) (yShS b (yMv b c) ((yMv b c).getD j 0))
    · rw [if_pos (hpm.mpr g2)] at q
      rw [yT_pos g2, if_neg (c := (1 : Int) = 0) (by decide)]
      by_cases g3 : ((((yMv b c).take j).filter (yCould b (yMv b c) (w 1))).length : Int) = i
      · have hp := yPick (xs := yMv b c) (p := yCould b (yMv b c) (w 1)) (k := j) (by omega) (hpm.mpr g2)
        rw [g3] at hp
        rw [if_pos g3, zgr_0_5, zbs, zcv_13, zk_97 (D + 7) yLs_13 (by rw [hl]; omega), zbs, zmG_v, zb_125_48, if_pos hin, e1', if_neg (by omega), hp]
      · rw [if_neg g3, zb_125_52, w32_of (by omega) (by omega), w32_of (by omega) (by omega)]
        exact q (by show i = -1 ∨ _ + ((1 : Nat) : Int) ≤ i; omega)
    · rw [if_neg (fun k => g2 (hpm.mp k))] at q
      rw [yT_neg g2, if_pos rfl, zb_125_52, w32_of (by omega) (by omega)]
      have q' := q (by show i = -1 ∨ _ + ((0 : Nat) : Int) ≤ i; omega)
      rw [show ((([] : List Int).length : Nat) : Int) = 0 from rfl, Int.add_zero] at q'
      exact q'
end ZR
