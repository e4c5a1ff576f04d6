/-! the class's games: the parts -/
theorem yGr_pcs {g : Nat} : ∀ (w : List Int) (g : Nat) (s k : Int), 0 ≤ k → yGr g s w k = -1 → (yPcs w).length ≤ g + 1
  | [], g, s, k, hk, h => by
    show 1 ≤ g + 1
    omega
  | b :: w, g, s, k, hk, h => by
    rw [yGr_cons] at h
    by_cases g1 : b = 59
    · rw [yPcs, if_pos g1, List.length_cons]
      by_cases g2 : yT (yEnds s) = 0
      · rw [if_neg (fun q => q.2 g2), g1, yNext_59, if_pos rfl] at h
        omega
      · rw [if_pos ⟨g1, g2⟩] at h
        by_cases g3 : g = 0
        · rw [if_pos g3] at h
          omega
        · rw [if_neg g3] at h
          have := yGr_pcs (g := g) w (g - 1) 0 (k + 1) (by omega) h
          omega
    · rw [if_neg (fun q => g1 q.1)] at h
      by_cases g2 : yNext s b = 7
      · rw [if_pos g2] at h
        omega
      · rw [if_neg g2] at h
        have := yGr_pcs (g := g) w g _ (k + 1) (by omega) h
        have e : (yPcs (b :: w)).length = (yPcs w).length := by
          rw [yPcs, if_neg g1]
          have := yPcs_ne w
          cases hw : yPcs w with
          | nil => exact absurd hw this
          | cons p ps => rfl
        omega
/-- the parts of a game, none if the text has a fault -/
noncomputable def yGa (w : List Int) : List (List Int) := if yT (w = [] ∨ yGf w ≠ -1) = 1 then [] else yPcs w
theorem yGa_no {w : List Int} (h : w = [] ∨ yGf w ≠ -1) : yGa w = [] := if_pos (yT_pos h)
theorem yGa_ok {w : List Int} (h : w ≠ []) (h2 : yGf w = -1) : yGa w = yPcs w := by
  unfold yGa
  rw [yT_neg (fun q => q.elim h fun q => q h2), if_neg (by decide)]
theorem yGa_le {w : List Int} : (yGa w).length ≤ 12 := by
  by_cases h : w = [] ∨ yGf w ≠ -1
  · rw [yGa_no h]
    decide
  · have h1 : w ≠ [] := fun q => h (.inl q)
    have h2 : yGf w = -1 := Classical.byContradiction fun q => h (.inr q)
    rw [yGa_ok h1 h2]
    unfold yGf at h2
    rw [if_neg h1] at h2
    exact yGr_pcs (g := 0) w 11 0 0 (by omega) h2
/-- the class holds a part -/
noncomputable def yPd (m : Nat → Int → Int) (k : Nat) (p : List Int) : Prop := (m (44 + k) 0 = (yPar p 0 0 0).2.1 ∧ m (44 + k) 1 = (yPar p 0 0 0).2.2 ∧ m (44 + k) 2 = yT (yEnds (yPar p 0 0 0).1)) ∧ m 56 k = p.length
def yPs (x : Nat) (j : Int) : Prop := x = 42 ∧ j = 5 ∨ 44 ≤ x ∧ x ≤ 56
section ZR
variable {L : Nat} {m : Nat → Int → Int} (D : Nat) {w : List Int}
theorem zsh_44 {k : Nat} (h : k < 12) : zSH L (44 + k) = (4, 0) := by
  have : k = 0 ∨ k = 1 ∨ k = 2 ∨ k = 3 ∨ k = 4 ∨ k = 5 ∨ k = 6 ∨ k = 7 ∨ k = 8 ∨ k = 9 ∨ k = 10 ∨ k = 11 := by omega
  rcases this with e | e | e | e | e | e | e | e | e | e | e | e <;> subst e
  · exact zh_44
  · exact zh_45
  · exact zh_46
  · exact zh_47
  · exact zh_48
  · exact zh_49
  · exact zh_50
  · exact zh_51
  · exact zh_52
  · exact zh_53
  · exact zh_54
  · exact zh_55
theorem zar_43 {k : Nat} (h : k < 12) : zAR (zW L m) 104 43 k = some (44 + k) := by
  have : k = 0 ∨ k = 1 ∨ k = 2 ∨ k = 3 ∨ k = 4 ∨ k = 5 ∨ k = 6 ∨ k = 7 ∨ k = 8 ∨ k = 9 ∨ k = 10 ∨ k = 11 := by omega
  rcases this with e | e | e | e | e | e | e | e | e | e | e | e <;> subst e
  · exact zar_43_0
  · exact zar_43_1
  · exact zar_43_2
  · exact zar_43_3
  · exact zar_43_4
  · exact zar_43_5
  · exact zar_43_6
  · exact zar_43_7
  · exact zar_43_8
  · exact zar_43_9
  · exact zar_43_10
  · exact zar_43_11
theorem zcv_s {K : zmK} {y k : Nat} {A : List zmV} (h : k < 12) : zcv K y 4 (44 + k) A (zW L m) = K y A (zW L m) := zw_cv (congrArg Prod.fst (zsh_44 h))
theorem zk_155e (hw : yTw m 6 60 w) (st : Nat) : ∀ k i : Nat, i + k = w.length → ∀ o4 : Option zmV, ∃ n : Nat, i + n ≤ w.length ∧ (∀ x ∈ (w.drop i).take n, x ≠ 59) ∧ (i + n = w.length ∨ i + n < w.length ∧ w.getD (i + n) 0 = 59) ∧ ∃ o4' : Option zmV, zmE (zmD zP (D+7)) zc_155 (25, [some (zr 42), some (zr 6), some (zi st), some (zi i), o4], [], zW L m) = zmE (zmD zP (D+7)) zc_155 (51, [some (zr 42), some (zr 6), some (zi st), some (zi ((i : Int) + n)), o4'], [], zW L m) := by
  intro k
  have hl := hw.2.1
  induction k with
  | zero =>
    intro i hi o4
    refine ⟨0, by omega, fun x hx => by rw [List.take_zero] at hx; exact absurd hx List.not_mem_nil, .inl (by omega), o4, ?_⟩
    rw [zb_155_25, yoc yTo_6, zk_22 (D + 6) yTo_6 hw, zbs, zmG_v, zb_155_30, if_neg (by omega), yoc yTo_6, zk_22 (D + 6) yTo_6 hw, zbs, zmG_v, zb_155_38, if_pos (by omega), Int.natCast_zero, Int.add_zero]
  | succ k ih =>
    intro i hi o4
    rw [zb_155_25, yoc yTo_6, zk_22 (D + 6) yTo_6 hw, zbs, zmG_v, zb_155_30, if_neg (by omega), yoc yTo_6, zk_22 (D + 6) yTo_6 hw, zbs, zmG_v, zb_155_38, if_neg (by omega), yoc yTo_6, zk_23 (D + 6) yTo_6 hw, zbs, zmG_v, yGet_at (by omega), zb_155_46]
    by_cases g : w.getD i 0 = 59
    · refine ⟨0, by omega, fun x hx => by rw [List.take_zero] at hx; exact absurd hx List.not_mem_nil, .inr ⟨by omega, g⟩, o4, ?_⟩
      rw [if_pos g, Int.natCast_zero, Int.add_zero]
    · obtain ⟨n, r1, r2, r3, o4', r4⟩ := ih (i + 1) (by omega) (some (zi 0))
      refine ⟨n + 1, by omega, fun x hx => ?_, ?_, o4', ?_⟩
      · rw [ydrop (by omega), List.take_succ_cons] at hx
        rcases List.mem_cons.mp hx with rfl | hx
        · exact g
        · exact r2 x hx
      · rw [show i + (n + 1) = i + 1 + n by omega]
        exact r3
      · rw [if_neg g, zb_155_56, if_pos rfl, zb_155_113, w32_of (z := (i : Int) + 1) (by omega) (by omega), show (i : Int) + ((n + 1 : Nat) : Int) = ((i + 1 : Nat) : Int) + n by omega]
        exact r4
theorem zk_155 (hw : yTw m 6 60 w) (hX : yTxt m) : ∃ m', zmD zP (D + 8) 155 [zr 42, zr 6] (zW L m) = some (none, zW L m') ∧ yFq yPs m m' ∧ m' 42 5 = (yGa w).length ∧ ∀ i : Nat, i < (yGa w).length → yPd m' i ((yGa w).getD i []) := by
  have hl := hw.2.1
  have hX1 : ∀ {M : Nat → Int → Int}, yFq yPs m M → yTxt M ∧ yTw M 6 60 w := fun q => by
    have k : ∀ x, x < 42 ∨ 56 < x → _ := fun x hx => (funext fun j => q x j (by unfold yPs; omega) : _ = m x)
    exact ⟨by unfold yTxt; rw [k _ (.inr (by unfold zXB; omega)), k _ (.inr (by unfold zXB; omega)), k _ (.inr (by unfold zXB; omega)), k _ (.inr (by unfold zXB; omega))]; exact hX, yTw_c hw (k 6 (by omega)) (k 7 (by omega))⟩
  have F0 : yFq yPs m (zup m 42 5 0) := yFq_up yFq_rfl (.inl ⟨rfl, rfl⟩)
  rw [zen_155, zb_155_0, zpi_42, zbs, yoc yTo_6, zk_22 (D + 6) yTo_6 (hX1 F0).2, zbs, zmG_v, zb_155_9]
  by_cases g0 : w = []
  · rw [if_pos (by rw [g0]; rfl), yGa_no (.inl g0)]
    exact ⟨_, rfl, F0, zup_self, fun i hi => absurd hi (Nat.not_lt_zero i)⟩
  have hne : w.length ≠ 0 := fun q => g0 (List.length_eq_zero_iff.mp q)
  rw [if_neg (by omega), zk_61 D yTo_6 (hX1 F0).2 (hX1 F0).1, zbs, zmG_v, zb_155_16]
  by_cases g2 : yGf w ≠ -1
  · rw [if_neg g2, yGa_no (.inr g2)]
    exact ⟨_, rfl, F0, zup_self, fun i hi => absurd hi (Nat.not_lt_zero i)⟩
  have g1 : yGf w = -1 := Classical.byContradiction g2
  have h12 := yGa_le (w := w)
  rw [yGa_ok g0 g1] at h12 ⊢
  rw [if_pos g1]
  suffices go : ∀ (ps : List (List Int)) (j st : Nat) (M : Nat → Int → Int) (o4 : Option zmV), st ≤ w.length → yPcs (w.drop st) = ps → j + ps.length ≤ 12 → yFq yPs m M → M 42 5 = j → ∃ m', zmE (zmD zP (D+7)) zc_155 (25, [some (zr 42), some (zr 6), some (zi st), some (zi st), o4], [], zW L M) = some (none, zW L m') ∧ yFq yPs m m' ∧ m' 42 5 = j + ps.length ∧ (∀ i : Nat, i < j → m' (44 + i) = M (44 + i) ∧ m' 56 i = M 56 i) ∧ ∀ i : Nat, i < ps.length → yPd m' (j + i) (ps.getD i []) by
    obtain ⟨m', r1, r2, r3, r4, r5⟩ := go (yPcs w) 0 0 _ none (by omega) rfl (by omega) F0 zup_self
    refine ⟨m', r1, r2, by rw [r3]; omega, fun i hi => ?_⟩
    have := r5 i hi
    rw [Nat.zero_add] at this
    exact this
  intro ps
  induction ps with
  | nil => exact fun j st M o4 h1 h2 => absurd h2 (yPcs_ne _)
  | cons p ps ih =>
    intro j st M o4 hst hps hj hF hM
    rw [List.length_cons] at hj
    have hX2 := hX1 hF
    obtain ⟨n, n1, n2, n3, o4', n4⟩ := zk_155e (L := L) D hX2.2 st (w.length - st) st (by omega) o4
    have hsp : w.drop st = (w.drop st).take n ++ (w.drop (st + n)) := by
      rw [← List.drop_drop, List.take_append_drop]
    have hlen : ((w.drop st).take n).length = n := by
      rw [List.length_take, List.length_drop]
      omega
    have hR : w.drop (st + n) = [] ∨ ∃ q, w.drop (st + n) = 59 :: q := by
      rcases n3 with n3 | ⟨n3, n5⟩
      · exact .inl (List.drop_eq_nil_of_le (by omega))
      · exact .inr ⟨w.drop (st + n + 1), by rw [ydrop n3, n5]⟩
    have e2 := yPcs_app _ _ n2 hR
    rw [← hsp, hps] at e2
    obtain ⟨M1, s1, s2, s3⟩ := zk_123 (L := L) (m := M) D yTo_6 hX2.2 hX2.1 (zsh_44 (L := L) (k := j) (by omega)) (by omega) (by omega) st (st + n) (by omega) n1
    rw [show st + n - st = n by omega] at s3
    have s1' : zmD zP (D + 7) 123 [zr (44 + j), zr 6, zi st, zi ((st : Int) + n)] (zW L M) = some (none, zW L M1) := s1
    have hM1 : M1 42 5 = j := by rw [s2 42 (by omega), hM]
    rw [n4, zb_155_51, zb_155_56, if_neg (by decide), zgi_42, zbs, hM, if_pos (by omega), zgr_42_0, zbs, zbs, zar_43 (by omega), zbs, zcv_s (by omega), s1', zbs, zmG_n, zb_155_87, zgr_42_1, zbs, zgi_42, zbs, hM1, show (st : Int) + n - st = n by omega, w32_of (z := (n : Int)) (by omega) (by omega), zsi_56 (by omega) (by omega), zbs, zgi_42, zbs, zup_ne (by decide), hM1, w32_of (z := (j : Int) + 1) (by omega) (by omega), zpi_42, zbs, zb_155_113, w32_of (z := (st : Int) + n + 1) (by omega) (by omega)]
    have hpp : p = (w.drop st).take n := by
      rcases hR with q | ⟨q, q2⟩
      · rw [q] at e2
        exact (List.cons.inj e2).1
      · rw [q2] at e2
        exact (List.cons.inj e2).1
    have F2 : yFq yPs m (zup (zup M1 56 j n) 42 5 (j + 1)) := yFq_up (yFq_up (yFq_tr hF (yFq_fr s2 fun x j' x1 x2 => .inr ⟨by omega, by omega⟩)) (.inr ⟨by decide, by decide⟩)) (.inl ⟨rfl, rfl⟩)
    have k1 : zup (zup M1 56 j n) 42 5 (j + 1) 42 5 = ((j + 1 : Nat) : Int) := by
      rw [zup_self]
      rfl
    have k2 : ∀ i : Nat, i < 12 → zup (zup M1 56 j n) 42 5 (j + 1) (44 + i) = M1 (44 + i) := fun i hi => by
      funext x
      rw [zup_ne (by omega), zup_ne (by omega)]
    have k3 : yPd (zup (zup M1 56 j n) 42 5 (j + 1)) j p := by
      unfold yPd
      rw [k2 j (by omega), hpp, hlen, zup_ne (by decide), zup_self]
      exact ⟨s3, rfl⟩
    have k4 : ∀ i : Nat, i < j → zup (zup M1 56 j n) 42 5 (j + 1) (44 + i) = M (44 + i) ∧ zup (zup M1 56 j n) 42 5 (j + 1) 56 i = M 56 i := fun i hi => by
      rw [k2 i (by omega), s2 (44 + i) (by omega), zup_ne (by decide), zup_ne2 (by omega), s2 56 (by omega)]
      exact ⟨rfl, rfl⟩
    generalize zup (zup M1 56 j n) 42 5 (j + 1) = M2 at *
    have hX3 := hX1 F2
    rcases n3 with n3 | ⟨n3, n5⟩
    · rw [List.drop_eq_nil_of_le (by omega)] at e2
      have hp0 : ps = [] := (List.cons.inj e2).2
      subst hp0
      rw [zb_155_25, yoc yTo_6, zk_22 (D + 6) yTo_6 hX3.2, zbs, zmG_v, zb_155_30, if_pos (by omega)]
      refine ⟨_, rfl, F2, k1, k4, fun i hi => ?_⟩
      have hi' : i = 0 := by
        have : i < 1 := hi
        omega
      subst hi'
      exact k3
    · rw [ydrop n3] at e2
      have hp0 : ps = yPcs (w.drop (st + n + 1)) := (List.cons.inj e2).2
      obtain ⟨m', r1, r2, r3, r4, r5⟩ := ih (j + 1) (st + n + 1) M2 (some (zi 1)) (by omega) hp0.symm (by omega) F2 k1
      have ea : ((st + n + 1 : Nat) : Int) = (st : Int) + n + 1 := by omega
      rw [ea] at r1
      refine ⟨m', ?_, r2, by rw [r3, List.length_cons]; omega, fun i hi => ?_, fun i hi => ?_⟩
      · exact r1
      · have := r4 i (by omega)
        rw [this.1, this.2]
        exact k4 i hi
      · cases i with
        | zero =>
          have := r4 j (by omega)
          show yPd m' j p
          unfold yPd at *
          rw [this.1, this.2]
          exact k3
        | succ i =>
          have := r5 i (Nat.lt_of_succ_lt_succ hi)
          rw [show j + (i + 1) = j + 1 + i by omega]
          exact this
end ZR
