/-! the faults of a game in the reference -/
def yPg (x : Nat) (j : Int) : Prop := x = 98 ∧ (13 ≤ j ∧ j ≤ 17 ∨ j = 27 ∨ j = 7) ∨ x = 114 ∨ x = 105 ∧ 192 ≤ j
theorem yPg_text : ∀ j, ¬ yPg 103 j ∧ ¬ yPg 104 j := fun j => by unfold yPg; omega
theorem yPg_hold : ∀ x j, yHoldR x j → ¬ yPg x j := fun x j q p => by unfold yHoldR at q; unfold yPg at p; omega
theorem yPg_fr {m m' : Nat → Int → Int} (h : yFq yPg m m') : yFr 98 117 m m' := yFr_of h fun x j q => by unfold yPg at q; omega
section ZR
variable {L : Nat} {m m' : Nat → Int → Int} (d : Nat) {w : List Int}
/-- to the next sign of parting -/
theorem zk_223e (h : yRt m 2 w) (st : Nat) (o4 : Option zmV) : ∀ k i : Nat, i + k = w.length → ∃ n : Nat, i + n ≤ w.length ∧ (∀ x ∈ (w.drop i).take n, x ≠ 59) ∧ (i + n = w.length ∨ i + n < w.length ∧ w.getD (i + n) 0 = 59) ∧ zmE (zmD zP (d+4)) zc_223 (37, [some (zr 98), some (zi (w.length)), some (zi st), some (zi i), o4], [], zW L m) = zmE (zmD zP (d+4)) zc_223 (59, [some (zr 98), some (zi (w.length)), some (zi st), some (zi ((i : Int) + n)), o4], [], zW L m) := by
  have hcap : w.length ≤ 60 := by
    have := h.2.2.1
    unfold yCap at this
    rw [if_neg (by decide)] at this
    split at this <;> omega
  intro k
  induction k with
  | zero =>
    intro i hi
    refine ⟨0, by omega, fun x hx => by rw [List.take_zero] at hx; exact absurd hx List.not_mem_nil, .inl (by omega), ?_⟩
    rw [zb_223_37, if_neg (by omega), Int.natCast_zero, Int.add_zero]
  | succ k ih =>
    intro i hi
    rw [zb_223_37, if_pos (by omega), zcv_98, zk_197t (d + 2) h i (by omega), zbs, zmG_v, zb_223_48, yGet_at (by omega)]
    by_cases g : w.getD i 0 = 59
    · refine ⟨0, by omega, fun x hx => by rw [List.take_zero] at hx; exact absurd hx List.not_mem_nil, .inr ⟨by omega, g⟩, ?_⟩
      rw [if_pos g, Int.natCast_zero, Int.add_zero]
    · obtain ⟨n, r1, r2, r3, r4⟩ := ih (i + 1) (by omega)
      refine ⟨n + 1, by omega, fun x hx => ?_, ?_, ?_⟩
      · rw [ydrop (by omega), List.take_succ_cons] at hx
        rcases List.mem_cons.mp hx with rfl | hx
        · exact g
        · exact r2 x hx
      · rw [show i + (n + 1) = i + 1 + n by omega]
        exact r3
      · rw [if_neg g, w32_of (z := (i : Int) + 1) (by omega) (by omega), show (i : Int) + ((n + 1 : Nat) : Int) = ((i + 1 : Nat) : Int) + n by omega]
        exact r4
theorem yOff_0 {ps : List (List Int)} : yOff ps 0 = 0 := by cases ps <;> rfl
theorem yPcs_ne : ∀ w : List Int, yPcs w ≠ []
  | [] => by decide
  | b :: w => by
    rw [yPcs]
    split
    · exact List.cons_ne_nil _ _
    · split <;> exact List.cons_ne_nil _ _
/-- the parts of the game, as the reference keeps them from the j-th on -/
def yKeep (m : Nat → Int → Int) (j st : Nat) (ps : List (List Int)) : Prop := m 98 27 = j + ps.length ∧ j + ps.length ≤ 12 ∧ ∀ i : Nat, i ≤ ps.length → m 114 ((j + i : Nat) : Int) = st + yOff ps i
theorem zk_224 (v : Int) : zmD zP (d + 1) 224 [zr 98, zi v] (zW L m) = some (some (zi v), zW L (zup m 98 27 0)) := by
  rw [zen_224, zb_224_0, zpi_98, zbs]
theorem zk_223 (h : yRt m 2 w) : ∃ m', zmD zP (d + 5) 223 [zr 98] (zW L m) = some (some (zi (yGf w)), zW L m') ∧ yFq yPg m m' ∧ (w = [] → m' 98 27 = 0) ∧ (w ≠ [] → yGf w = -1 → yKeep m' 0 0 (yPcs w)) ∧ (yGf w ≠ -1 → m' 98 27 = 0) := by
  have hcap : w.length ≤ 60 := by
    have := h.2.2.1
    unfold yCap at this
    rw [if_neg (by decide)] at this
    split at this <;> omega
  have U : ∀ {M : Nat → Int → Int} {z : Int}, yFq yPg m M → yFq yPg m (zup M 98 27 z) := fun q => yFq_up q (.inl ⟨rfl, .inr (.inl rfl)⟩)
  have V : ∀ {M : Nat → Int → Int} {k z : Int}, yFq yPg m M → yFq yPg m (zup M 114 k z) := fun q => yFq_up q (.inr (.inl rfl))
  have hl : ∀ {M : Nat → Int → Int}, yFq yPg m M → yRt M 2 w := fun q => yRt_fr h q yPg_text
  rw [zen_223, zb_223_0, zpi_98, zbs, zgr_98_6, zbs, zai_104 (by decide) (by decide), zbs, (hl (U yFq_rfl)).2.1]
  unfold yGf
  by_cases g0 : w = []
  · rw [if_pos g0, if_pos (by rw [g0]; rfl)]
    exact ⟨_, rfl, U yFq_rfl, fun _ => zup_self, fun q => absurd g0 q, fun q => absurd rfl q⟩
  have hne : w.length ≠ 0 := fun q => g0 (List.length_eq_zero_iff.mp q)
  rw [if_neg g0, if_neg (by omega)]
  suffices go : ∀ (g j : Nat), g + j = 12 → ∀ (st : Nat) (M : Nat → Int → Int) (o3 o4 : Option zmV), st ≤ w.length → yFq yPg m M → M 98 27 = j → ∃ m', zmE (zmD zP (d+4)) zc_223 (20, [some (zr 98), some (zi (w.length)), some (zi st), o3, o4], [], zW L M) = some (some (zi (if g = 0 then (st : Int) else yGr (g - 1) 0 (w.drop st) st)), zW L m') ∧ yFq yPg m m' ∧ (∀ i : Int, i < j → m' 114 i = M 114 i) ∧ ((if g = 0 then (st : Int) else yGr (g - 1) 0 (w.drop st) st) = -1 → yKeep m' j st (yPcs (w.drop st))) ∧ ((if g = 0 then (st : Int) else yGr (g - 1) 0 (w.drop st) st) ≠ -1 → m' 98 27 = 0) by
    obtain ⟨m', r1, r2, r3, r4, r5⟩ := go 12 0 (by omega) 0 (zup m 98 27 0) none none (by omega) (U yFq_rfl) zup_self
    exact ⟨m', r1, r2, fun q => absurd q g0, fun _ q => r4 q, r5⟩
  intro g
  induction g with
  | zero =>
    intro j hj st M o3 o4 hst hF hM
    rw [zb_223_20, zgi_98, zbs, hM, if_pos (by omega), zcv_98, zk_224 (d + 3), zbs, zmG_v, zb_223_34, if_pos rfl]
    exact ⟨_, rfl, U hF, fun i _ => zup_ne (by decide), fun q => by omega, fun _ => zup_self⟩
  | succ g ih =>
    intro j hj st M o3 o4 hst hF hM
    obtain ⟨n, n1, n2, n3, n4⟩ := zk_223e (L := L) d (hl hF) st o4 (w.length - st) st (by omega)
    rw [zb_223_20, zgi_98, zbs, hM, if_neg (by omega), n4, zb_223_59, zcv_98, if_neg (by omega)]
    obtain ⟨M1, s1, s2, -⟩ := zk_219 (L := L) d (hl hF) st (st + n) (by omega) n1
    rw [show st + n - st = n by omega] at s1
    have s1' : zmD zP (d + 4) 219 [zr 98, zi 2, zi st, zi ((st : Int) + n)] (zW L M) = some (some (zi (yRun 0 ((w.drop st).take n) st)), zW L M1) := s1
    have F1 : yFq yPg m M1 := yFq_tr hF (yFq_wd s2 fun x j q => .inl ⟨q.1, .inl q.2⟩)
    have hM1 : M1 98 27 = j := (s2 98 27 (by unfold yS5; omega)).trans hM
    have hM4 : ∀ i, M1 114 i = M 114 i := fun i => s2 114 i (by unfold yS5; omega)
    rw [s1', zbs, zmG_v, zb_223_66]
    have hsp : w.drop st = (w.drop st).take n ++ (w.drop (st + n)) := by
      rw [← List.drop_drop, List.take_append_drop]
    have hlen : ((w.drop st).take n).length = n := by
      rw [List.length_take, List.length_drop]
      omega
    have hR : w.drop (st + n) = [] ∨ ∃ q, w.drop (st + n) = 59 :: q := by
      rcases n3 with n3 | ⟨n3, n5⟩
      · exact .inl (List.drop_eq_nil_of_le (by omega))
      · exact .inr ⟨w.drop (st + n + 1), by rw [ydrop n3, n5]⟩
    have e1 := yGr_app (g := g) _ _ 0 (st : Int) (by omega) n2 hR
    have e2 := yPcs_app _ _ n2 hR
    rw [← hsp, hlen] at e1
    rw [← hsp] at e2
    rw [show g + 1 - 1 = g by omega, e1, e2]
    by_cases g1 : yRun 0 ((w.drop st).take n) st = -1
    · rw [if_pos g1, if_pos g1, zgr_98_28, zbs, zgi_98, zbs, hM1, zsi_114 (by omega) (by omega), zbs, zgi_98, zbs, zup_ne (by decide), hM1, w32_of (z := (j : Int) + 1) (by omega) (by omega), zpi_98, zbs, zgr_98_28, zbs, zgi_98, zbs, zup_self, w32_of (z := (st : Int) + n + 1) (by omega) (by omega), zsi_114 (by omega) (by omega), zbs]
      have F2 : yFq yPg m (zup (zup (zup M1 114 j st) 98 27 (j + 1)) 114 (j + 1) (st + n + 1)) := V (U (V F1))
      have k1 : zup (zup (zup M1 114 j st) 98 27 (j + 1)) 114 (j + 1) (st + n + 1) 98 27 = ((j + 1 : Nat) : Int) := by
        rw [zup_ne (by decide), zup_self]
        rfl
      have k2 : ∀ i : Int, i < j → zup (zup (zup M1 114 j st) 98 27 (j + 1)) 114 (j + 1) (st + n + 1) 114 i = M 114 i := fun i hi => by
        rw [zup_ne2 (by omega), zup_ne (by decide), zup_ne2 (by omega), hM4]
      have k3 : zup (zup (zup M1 114 j st) 98 27 (j + 1)) 114 (j + 1) (st + n + 1) 114 j = st := by
        rw [zup_ne2 (by omega), zup_ne (by decide), zup_self]
      have k4 : zup (zup (zup M1 114 j st) 98 27 (j + 1)) 114 (j + 1) (st + n + 1) 114 (j + 1) = st + n + 1 := zup_self
      generalize zup (zup (zup M1 114 j st) 98 27 (j + 1)) 114 (j + 1) (st + n + 1) = M2 at *
      rcases n3 with n3 | ⟨n3, n5⟩
      · rw [if_pos (by omega), List.drop_eq_nil_of_le (by omega)]
        refine ⟨_, rfl, F2, k2, fun _ => ⟨by rw [k1]; rfl, by show j + 1 ≤ 12; omega, fun i hi => ?_⟩, fun q => absurd rfl q⟩
        have hi' : i = 0 ∨ i = 1 := by
          have : i ≤ 1 := hi
          omega
        rcases hi' with rfl | rfl
        · rw [yOff_0, Nat.add_zero, k3]
          omega
        · have : yOff [(w.drop st).take n] 1 = n + 1 := by
            rw [yOff, yOff_0, hlen]
          rw [this, show ((j + 1 : Nat) : Int) = (j : Int) + 1 by omega, k4]
          omega
      · obtain ⟨m', r1, r2, r3, r4, r5⟩ := ih (j + 1) (by omega) (st + n + 1) M2 (some (zi ((st : Int) + n))) (some (zi (-1))) (by omega) F2 k1
        have ea : ((st + n + 1 : Nat) : Int) = (st : Int) + n + 1 := by omega
        rw [ea] at r1 r4 r5
        rw [if_neg (by omega), g1, ydrop n3]
        refine ⟨m', r1, r2, fun i hi => (r3 i (by omega)).trans (k2 i hi), fun q => ?_, r5⟩
        obtain ⟨t1, t2, t3⟩ := r4 q
        refine ⟨?_, ?_, fun i hi => ?_⟩
        · rw [t1]
          show _ = (j : Int) + (((yPcs (w.drop (st + n + 1))).length + 1 : Nat) : Int)
          omega
        · show j + ((yPcs (w.drop (st + n + 1))).length + 1) ≤ 12
          omega
        · cases i with
          | zero =>
            rw [yOff_0, Nat.add_zero, r3 _ (by omega), k3]
            omega
          | succ i =>
            have hi' : i ≤ (yPcs (w.drop (st + n + 1))).length := Nat.le_of_succ_le_succ hi
            have t4 := t3 i hi'
            rw [yOff, hlen, show j + (i + 1) = j + 1 + i by omega, t4]
            omega
    · rw [if_neg g1, if_neg g1, zcv_98, zk_224 (d + 3), zbs, zmG_v, zb_223_80]
      exact ⟨_, rfl, U F1, fun i _ => by rw [zup_ne (by decide), hM4], fun q => absurd q g1, fun _ => zup_self⟩
end ZR
