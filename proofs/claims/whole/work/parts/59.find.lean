/-! findShortest of the reference -/
section ZR
variable {L : Nat} {m : Nat → Int → Int} (d : Nat)
theorem yRm_fr {P : Nat → Int → Prop} {m m' : Nat → Int → Int} {l : Int} {xs : List Int} (h : yRm m l xs) (hf : yFq P m m') (h2 : ∀ j, ¬ P 107 j ∧ ¬ P 108 j) : yRm m' l xs := by
  obtain ⟨h1, h3, h4⟩ := h
  refine ⟨by rw [hf _ _ (h2 l).2, h1], h3, fun i hi => ?_⟩
  rw [hf _ _ (h2 _).1]
  exact h4 i hi
theorem zbd_fr {P : Nat → Int → Prop} {m m' : Nat → Int → Int} {l : Int} (hf : yFq P m m') (h2 : ∀ j, ¬ P 105 j) : zbd m' l = zbd m l := by
  funext s
  exact hf 105 _ (h2 _)
theorem yS8_no {j : Int} : ¬ yS8 105 j ∧ ¬ yS8 107 j ∧ ¬ yS8 108 j := by
  unfold yS8
  refine ⟨?_, ?_, ?_⟩ <;> rintro (q | q | ⟨q, -⟩) <;> exact absurd q (by decide)
/-- the best of the first w tries -/
def yBst (m : Nat → Int → Int) (b : Int → Int) (xs : List Int) (v : Int) (w : Nat) : Prop := (m 98 19 = 6 ∧ ∀ w', w' < w → yCp b xs (yWp w') v ≠ 1) ∨ ∃ w0, w0 < w ∧ yCp b xs (yWp w0) v = 1 ∧ (∀ w', w' < w → yCp b xs (yWp w') v = 1 → yRkw w0 ≤ yRkw w') ∧ yBs m (ySay (yWp w0) (b (v / 64) % 8 - 1) v)
theorem zk_253 (l v : Int) (hl : 0 ≤ l ∧ l < 3) {xs : List Int} (hm : yRm m l xs) (ho : yOkv (zbd m l) xs) (hB : zOkB (zbd m l)) (hs : xs.Pairwise (· < ·)) (hv : v ∈ xs) : ∃ m', zmD zP (d + 3) 253 [zr 98, zi l, zi v] (zW L m) = some (some (zi (yNs (zbd m l) xs v)), zW L m') ∧ yFq yS8 m m' ∧ yBs m' (ySay (yForm (yFm (zbd m l) xs v 10)) (zbd m l (v / 64) % 8 - 1) v) := by
  obtain ⟨v1, v2, v3⟩ := ho v hv
  have hb2 := hB (v / 64) (by omega) (by omega)
  generalize hb : zbd m l = b at *
  have hk : 0 ≤ b (v / 64) % 8 - 1 ∧ b (v / 64) % 8 - 1 ≤ 5 := by omega
  suffices go : ∀ k w : Nat, w + k = 12 → ∀ (o4 : Option zmV) (M : Nat → Int → Int), yFq yS8 m M → yBst M b xs v w → ∃ m', zmE (zmD zP (d+2)) zc_253 (8, [some (zr 98), some (zi l), some (zi v), some (zi w), o4], [], zW L M) = some (some (zi (yNs b xs v)), zW L m') ∧ yFq yS8 m m' ∧ yBs m' (ySay (yForm (yFm b xs v 10)) (b (v / 64) % 8 - 1) v) by
    rw [zen_253, zb_253_0, zpi_98, zbs]
    exact go 12 0 rfl none (zup m 98 19 6) (yFq_up yFq_rfl (.inr (.inr ⟨rfl, by decide, by decide⟩))) (.inl ⟨zup_self, fun w' hw' => absurd hw' (Nat.not_lt_zero _)⟩)
  intro k
  induction k with
  | zero =>
    intro w hw o4 M hF hM
    have : w = 12 := by omega
    subst this
    have u15 := yCp_15 hs ho hv
    rcases hM with ⟨q1, q2⟩ | ⟨w0, q1, q2, q3, q4⟩
    · exact absurd u15 (q2 10 (by decide))
    · have e := yBest_form q1 q2 q3 u15
      obtain ⟨n1, n2⟩ := ySay_len q1 (k := b (v / 64) % 8 - 1) (v := v)
      unfold yNs
      rw [zb_253_8, if_neg (by decide), zgi_98, zbs, e, q4.1, n1]
      exact ⟨M, rfl, hF, q4⟩
  | succ k ih =>
    intro w hw o4 M hF hM
    have hw12 : w < 12 := by omega
    have hbM : zbd M l = b := (zbd_fr hF fun j => yS8_no.1).trans hb
    have hmM := yRm_fr hm hF fun j => yS8_no.2
    obtain ⟨M1, r1, r2, t13, t14, t15, t16, t17, r3⟩ := zk_254 (L := L) (m := M) d l v w ⟨hl.1, by omega⟩ v1 hw12 (by rw [hbM]; exact ⟨v2, v3⟩) (by rw [hbM]; exact hb2)
    rw [hbM] at t13 r3
    obtain ⟨p1, p2⟩ := yTry_of hw12 hk v1
    rw [show b (v / 64) % 8 - 1 + 1 = b (v / 64) % 8 by omega] at p1 p2
    rw [p1] at r3
    have hA5 := (ySay_len hw12 (k := b (v / 64) % 8 - 1) (v := v)).2
    have s7 : ∀ x j, yS7 x j → yS8 x j := fun x j q => by
      rcases q with q | ⟨q, q2⟩
      · exact .inr (.inl q)
      · exact .inr (.inr ⟨q, by omega, by omega⟩)
    have hF1 := yFq_tr hF (yFq_wd r2 s7)
    have hbM1 : zbd M1 l = b := (zbd_fr hF1 fun j => yS8_no.1).trans hb
    have hmM1 := yRm_fr hm hF1 fun j => yS8_no.2
    have k19 : M1 98 19 = M 98 19 := r2 98 19 (fun q => by
      rcases q with q | ⟨-, q⟩
      · exact absurd q (by decide)
      · omega)
    have k109 : ∀ j, M1 109 j = M 109 j := fun j => r2 109 j (fun q => by
      rcases q with q | ⟨q, -⟩ <;> exact absurd q (by decide))
    have hcnt : (xs.countP (yFw M1 b)) = yCp b xs (yWp w) v := by
      unfold yCp
      refine List.countP_congr fun u hu => ?_
      obtain ⟨u1, u2, u3⟩ := ho u hu
      rw [yFw_t, decide_eq_true_iff]
      unfold yFit9
      rw [t13, t14, t15, t16, t17]
      exact p2 (b (u / 64) % 8 - 1) u ⟨by omega, by omega⟩ u1
    have hle := List.countP_le_length (p := yFw M1 b) (l := xs)
    have hxs := hm.2.1
    have nx : ∀ (o4 : Option zmV) (M2 : Nat → Int → Int), yFq yS8 m M2 → yBst M2 b xs v (w + 1) → ∃ m', zmE (zmD zP (d+2)) zc_253 (77, [some (zr 98), some (zi l), some (zi v), some (zi w), o4], [], zW L M2) = some (some (zi (yNs b xs v)), zW L m') ∧ yFq yS8 m m' ∧ yBs m' (ySay (yForm (yFm b xs v 10)) (b (v / 64) % 8 - 1) v) := fun o4 M2 f1 f2 => by
      rw [zb_253_77, w32_of (by omega) (by omega)]
      have e := ih (w + 1) (by omega) o4 M2 f1 f2
      rw [Int.natCast_succ] at e
      exact e
    -- what is best in the new world, when the try is not taken
    have stay : (yCp b xs (yWp w) v = 1 → ∃ w0, w0 < w ∧ yCp b xs (yWp w0) v = 1 ∧ (∀ w', w' < w → yCp b xs (yWp w') v = 1 → yRkw w0 ≤ yRkw w') ∧ yBs M (ySay (yWp w0) (b (v / 64) % 8 - 1) v) ∧ yRkw w0 ≤ yRkw w) → yBst M1 b xs v (w + 1) := fun hno => by
      have kb : ∀ B, yBs M B → yBs M1 B := fun B q => ⟨by rw [k19]; exact q.1, fun i hi => by rw [k109]; exact q.2 i hi⟩
      by_cases g : yCp b xs (yWp w) v = 1
      · obtain ⟨w0, q1, q2, q3, q4, q5⟩ := hno g
        refine .inr ⟨w0, by omega, q2, fun w' hw' hq => ?_, kb _ q4⟩
        by_cases e : w' = w
        · rw [e]
          exact q5
        · exact q3 w' (by omega) hq
      · rcases hM with ⟨q1, q2⟩ | ⟨w0, q1, q2, q3, q4⟩
        · refine .inl ⟨by rw [k19]; exact q1, fun w' hw' => ?_⟩
          by_cases e : w' = w
          · rw [e]
            exact g
          · exact q2 w' (by omega)
        · refine .inr ⟨w0, by omega, q2, fun w' hw' hq => ?_, kb _ q4⟩
          by_cases e : w' = w
          · rw [e] at hq
            exact absurd hq g
          · exact q3 w' (by omega) hq
    -- the try taken
    have take : yCp b xs (yWp w) v = 1 → (∀ w', w' < w → yCp b xs (yWp w') v = 1 → yRkw w ≤ yRkw w') → ∃ m', zmE (zmD zP (d+2)) zc_253 (33, [some (zr 98), some (zi l), some (zi v), some (zi w), o4], [zi ((xs.countP (yFw M1 b) : Nat))], zW L M1) = some (some (zi (yNs b xs v)), zW L m') ∧ yFq yS8 m m' ∧ yBs m' (ySay (yForm (yFm b xs v 10)) (b (v / 64) % 8 - 1) v) := fun g hmin => by
      rw [zb_253_33, hcnt, g, Int.natCast_one, if_pos rfl, zgi_98, zbs, zpi_98, zbs, r3.1]
      generalize hA : ySay (yWp w) (b (v / 64) % 8 - 1) v = A at *
      suffices cp : ∀ n i : Nat, i + n = A.length → ∀ M2 : Nat → Int → Int, yFq yS8 m M2 → yNw M2 A → M2 98 19 = A.length → (∀ j : Nat, j < i → M2 109 j = A.getD j 0) → ∃ m', zmE (zmD zP (d+2)) zc_253 (48, [some (zr 98), some (zi l), some (zi v), some (zi w), some (zi i)], [], zW L M2) = some (some (zi (yNs b xs v)), zW L m') ∧ yFq yS8 m m' ∧ yBs m' (ySay (yForm (yFm b xs v 10)) (b (v / 64) % 8 - 1) v) by
        exact cp A.length 0 (by omega) (zup M1 98 19 A.length) (yFq_up hF1 (.inr (.inr ⟨rfl, by decide, by decide⟩))) ⟨by rw [zup_ne2 (by decide)]; exact r3.1, fun i hi => by rw [zup_ne (by decide)]; exact r3.2 i hi⟩ zup_self (fun j hj => absurd hj (Nat.not_lt_zero j))
      intro n
      induction n with
      | zero =>
        intro i hi M2 f1 f2 f3 f4
        rw [zb_253_48, zgi_98, zbs, f2.1, if_neg (by omega)]
        refine nx _ M2 f1 (.inr ⟨w, Nat.lt_succ_self w, g, fun w' hw' hq => ?_, ⟨by rw [hA]; exact f3, fun j hj => ?_⟩⟩)
        · by_cases e : w' = w
          · rw [e]
            exact Int.le_refl _
          · exact hmin w' (by omega) hq
        · rw [hA] at hj ⊢
          exact f4 j (by omega)
      | succ n ihn =>
        intro i hi M2 f1 f2 f3 f4
        rw [zb_253_48, zgi_98, zbs, f2.1, if_pos (by omega), zgr_98_18, zbs, zgr_98_20, zbs, zai_110 (by omega) (by omega), zbs, zsi_109 (by omega) (by omega), zbs, w32_of (by omega) (by omega), f2.2 i (by omega)]
        have e := ihn (i + 1) (by omega) (zup M2 109 i (A.getD i 0)) (yFq_up f1 (.inl rfl)) ⟨by rw [zup_ne (by decide)]; exact f2.1, fun j hj => by rw [zup_ne (by decide)]; exact f2.2 j hj⟩ (by rw [zup_ne (by decide)]; exact f3) (fun j hj => by
          by_cases e : j = i
          · rw [e, zup_self]
          · rw [zup_ne2 (by omega)]
            exact f4 j (by omega))
        rw [Int.natCast_succ] at e
        exact e
    have fit33 : (∀ w', w' < w → yCp b xs (yWp w') v = 1 → yRkw w ≤ yRkw w') → ∃ m', zmE (zmD zP (d+2)) zc_253 (25, [some (zr 98), some (zi l), some (zi v), some (zi w), o4], [zi 1], zW L M1) = some (some (zi (yNs b xs v)), zW L m') ∧ yFq yS8 m m' ∧ yBs m' (ySay (yForm (yFm b xs v 10)) (b (v / 64) % 8 - 1) v) := fun hmin => by
      rw [zb_253_25, if_neg (by decide), zcv_98, zk_257 d l hl hmM1 (by rw [hbM1]; exact ho) (by rw [hbM1]; exact hB), zbs, zmG_v, hbM1]
      by_cases g : yCp b xs (yWp w) v = 1
      · exact take g hmin
      · rw [zb_253_33, hcnt, if_neg (by omega)]
        exact nx _ M1 hF1 (stay fun q => absurd q g)
    rw [zb_253_8, if_pos (by omega), zcv_98, r1, zbs, zmG_n, zb_253_21, zcv_98]
    have hM0 := hM
    rcases hM with ⟨q1, q2⟩ | ⟨w0, q1, q2, q3, q4⟩
    · rw [zk_256n (d + 1) r3 hA5 (k19.trans q1), zbs, zmG_v]
      exact fit33 fun w' hw' hq => absurd hq (q2 w' hw')
    · have hB5 := (ySay_len (show w0 < 12 by omega) (k := b (v / 64) % 8 - 1) (v := v)).2
      have kb : yBs M1 (ySay (yWp w0) (b (v / 64) % 8 - 1) v) := ⟨by rw [k19]; exact q4.1, fun i hi => by rw [k109]; exact q4.2 i hi⟩
      rw [zk_256 (d + 1) r3 kb hA5 hB5, zbs, zmG_v, yT_c (yLess_rank hw12 (by omega) hk v1)]
      by_cases g : yRkw w < yRkw w0
      · rw [yT_pos g]
        exact fit33 fun w' hw' hq => by
          have := q3 w' hw' hq
          omega
      · rw [yT_neg g, zb_253_25, if_pos rfl]
        exact nx _ M1 hF1 (stay fun _ => ⟨w0, q1, q2, q3, q4, by omega⟩)
end ZR
