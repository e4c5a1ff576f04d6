/-! the reference's acts on the board and on texts -/
section ST
variable {m m' : Nat → Int → Int} {w w' : Int → List Int} {b b' : Int → Int} {c n e c' n' e' : Int} {W F : Int → Int} {Z : Int → List Int}
theorem yRs_mk (h : yRs m w b c n e W F Z) (q : ∀ x, (x = 99 ∨ x = 100 ∨ x = 101 ∨ x = 111) → m' x = m x) (tx : yRt m' 0 (w' 0) ∧ yRt m' 1 (w' 1) ∧ yRt m' 2 (w' 2)) (bd : yPu b' c' ∧ yAg (zbd m' 0) b' ∧ m' 106 0 = c') (fl : m' 98 10 = n' ∧ m' 98 4 = e') : yRs m' w' b' c' n' e' W F Z := by
  obtain ⟨-, -, -, f1, g1, g2, g3, g4⟩ := h
  have sh : ∀ s f z, yShR m s f z → yShR m' s f z := fun s f z h => by
    unfold yShR
    rw [q 99 (by omega), q 100 (by omega), q 101 (by omega)]
    exact h
  exact ⟨tx, bd, fl, by rw [q 111 (by omega)]; exact f1, sh _ _ _ g1, sh _ _ _ g2, sh _ _ _ g3, sh _ _ _ g4⟩
theorem yRt_c {t : Int} {u : List Int} (h : yRt m t u) (h1 : m' 103 = m 103) (h2 : m' 104 = m 104) : yRt m' t u := by
  unfold yRt
  rw [h1, h2]
  exact h
theorem yCrown_ok {v t : Int} (h : 0 ≤ v ∧ v ≤ 14) (h2 : v % 8 ≠ 7) (h3 : v ≠ 8) : (0 ≤ yCrown v t ∧ yCrown v t ≤ 14) ∧ yCrown v t % 8 ≠ 7 ∧ yCrown v t ≠ 8 := by
  unfold yCrown
  split <;> omega
theorem yPu_put {f t : Int} (hp : yPu b c) (hf : 0 ≤ f ∧ f < 64) : yPu (yPut b f t) (8 - c) := by
  obtain ⟨h1, h2, h3, h4⟩ := hp
  have k := yCrown_ok (t := t) (h1 f hf.1 hf.2) (h2 f hf.1 hf.2) (h3 f hf.1 hf.2)
  refine ⟨zOkB_put h1 hf, fun s s1 s2 => ?_, fun s s1 s2 => ?_, by omega⟩
  · unfold yPut
    split
    · decide
    · split
      · exact k.2.1
      · exact h2 s s1 s2
  · unfold yPut
    split
    · decide
    · split
      · exact k.2.2
      · exact h3 s s1 s2
theorem yRs_bd (h : yRs m w b c n e W F Z) : zOkB (zbd m 0) ∧ (m 106 0 = 0 ∨ m 106 0 = 8) ∧ yMv (zbd m 0) (m 106 0) = yMv b c := by
  obtain ⟨-, ⟨b1, b2, b3⟩, -⟩ := h
  refine ⟨(yPu_cg (yAg_sym b2) b1).1, by rw [b3]; exact b1.2.2.2, by rw [b3, yMv_cg b2]⟩
end ST
def yPm (l : Int) (x : Nat) (j : Int) : Prop := x = 107 ∧ 512 * l ≤ j ∧ j < 512 * l + 512 ∨ x = 108 ∧ j = l
section ZR
variable {L : Nat} {m : Nat → Int → Int} (d : Nat) {w : Int → List Int} {b : Int → Int} {c n e : Int} {W F : Int → Int} {Z : Int → List Int}
theorem yr_232 (l : Int) (hl : 0 ≤ l ∧ l < 3) (hB : zOkB (zbd m l)) (hc : m 106 l = 0 ∨ m 106 l = 8) : ∃ m', zmD zP (d + 6) 232 [zr 98, zi l] (zW L m) = some (none, zW L m') ∧ yFq (yPm l) m m' ∧ yRm m' l (yMv (zbd m l) (m 106 l)) := by
  have hn := yMv_le (b := zbd m l) hc
  rw [zk_232 d l hl hB hc hn]
  generalize yMv (zbd m l) (m 106 l) = xs at *
  refine ⟨_, rfl, yFq_up (fun x j hx => ?_) (.inr ⟨rfl, rfl⟩), zup_self, hn, fun i hi => ?_⟩
  · unfold yLst
    rw [if_neg]
    rintro ⟨q1, q2, q3⟩
    exact hx (.inl ⟨q1, q2, by omega⟩)
  · rw [zup_ne (by decide)]
    unfold yLst
    rw [if_pos ⟨rfl, by omega, by omega⟩, show (512 * l + (i : Int) - 512 * l).toNat = i by omega]
theorem yPm_hold {l : Int} : ∀ x j, yHoldR x j → ¬ yPm l x j := fun x j h q => by
  unfold yHoldR at h
  unfold yPm at q
  omega
theorem yPm_fr {l : Int} {m m' : Nat → Int → Int} (h : yFq (yPm l) m m') : yFr 98 117 m m' := yFr_of h fun x j q => by
  unfold yPm at q
  omega
/-- the moves of now -/
theorem yr_now (h : yRs m w b c n e W F Z) : ∃ m', zmD zP (d + 6) 232 [zr 98, zi 0] (zW L m) = some (none, zW L m') ∧ yFq (yPm 0) m m' ∧ yRs m' w b c n e W F Z ∧ yRm m' 0 (yMv b c) := by
  obtain ⟨k1, k2, k3⟩ := yRs_bd h
  obtain ⟨M, r1, r2, r3⟩ := yr_232 (L := L) (m := m) d 0 (by decide) k1 k2
  rw [k3] at r3
  exact ⟨M, r1, r2, yRs_fr h r2 yPm_hold, r3⟩
theorem yRm_get {m : Nat → Int → Int} {l : Int} {xs : List Int} (h : yRm m l xs) {i : Int} (h1 : 0 ≤ i) (h2 : i < xs.length) : m 107 (512 * l + i) = yGet xs i := by
  have e1 := h.2.2 i.toNat (by omega)
  rw [show ((i.toNat : Nat) : Int) = i by omega] at e1
  unfold yGet
  rw [if_pos ⟨h1, h2⟩, e1]
theorem yr_231 (h : yRs m w b c n e W F Z) (i : Int) (hi : -1 ≤ i) : ∃ m', zmD zP (d + 7) 231 [zr 98, zi i] (zW L m) = some (some (zi (if i = -1 then (yMv b c).length else yGet (yMv b c) i)), zW L m') ∧ yFq (yPm 0) m m' ∧ yRs m' w b c n e W F Z := by
  obtain ⟨M, r1, r2, r3, r4⟩ := yr_now (L := L) d h
  have hl := r4.1
  have hle := r4.2.1
  rw [zen_231, zb_231_0, zcv_98, r1, zbs, zmG_n, zb_231_5]
  refine ⟨M, ?_, r2, r3⟩
  by_cases g : i = -1
  · rw [if_pos g, if_pos g, zgr_98_12, zbs, zai_108 (by decide) (by decide), zbs, hl]
  · rw [if_neg g, if_neg g, zgr_98_12, zbs, zai_108 (by decide) (by decide), zbs, hl]
    by_cases g2 : i < (yMv b c).length
    · have e1 := yRm_get r4 (i := i) (by omega) g2
      rw [show (512 : Int) * 0 + i = i by omega] at e1
      rw [if_pos g2, zgr_98_11, zbs, zai_107 (by omega) (by omega), zbs, e1]
    · unfold yGet
      rw [if_neg g2, if_neg (by omega)]
theorem yr_230 (h : yRs m w b c n e W F Z) (i : Int) : ∃ m', zmD zP (d + 8) 230 [zr 98, zi i] (zW L m) = some (some (zi (if i < -1 then -2 else if i = -1 then (yMv b c).length else yGet (yMv b c) i)), zW L m') ∧ yFr 98 117 m m' ∧ yRs m' w b c n e W F Z := by
  rw [zen_230, zb_230_0]
  by_cases g : i < -1
  · rw [if_pos g, if_pos g]
    exact ⟨m, rfl, yFr_rfl, h⟩
  · obtain ⟨M, r1, r2, r3⟩ := yr_231 (L := L) d h i (by omega)
    rw [if_neg g, if_neg g, zcv_98, r1, zbs, zmG_v, zb_230_10]
    exact ⟨M, rfl, yPm_fr r2, r3⟩
theorem yr_234 (h : yRs m w b c n e W F Z) (v : Int) (hv : 0 ≤ v ∧ v < 4096) : zmD zP (d + 5) 234 [zr 98, zi 0, zi (v / 64), zi (v % 64)] (zW L m) = some (some (zi (yT (v ∈ yMv b c))), zW L m) := by
  obtain ⟨k1, k2, -⟩ := yRs_bd h
  have e : zbd m 0 = zbd m 0 := rfl
  rw [zk_234 d 0 _ _ (by decide) ⟨by omega, by omega⟩ ⟨by omega, by omega⟩ k1 k2]
  refine congrArg (fun z => some (some (zi z), zW L m)) (yT_c ?_)
  rw [yMv_mem, h.2.1.2.2, yLaw_cg h.2.1.2.1 ⟨by omega, by omega⟩ ⟨by omega, by omega⟩]
  exact ⟨fun q => ⟨hv.1, hv.2, q⟩, fun q => q.2.2⟩
theorem yr_243 (h : yRs m w b c n e W F Z) (v : Int) : ∃ m', zmD zP (d + 6) 243 [zr 98, zi v] (zW L m) = some (some (zi (if 0 ≤ v ∧ v < 4096 then yT (v ∈ yMv b c) else -2)), zW L m') ∧ yFr 98 117 m m' ∧ yRs m' w b c n e W F Z := by
  refine ⟨m, ?_, yFr_rfl, h⟩
  rw [zen_243, zb_243_0, zk_244, zbs, zmG_v, zb_243_4]
  by_cases g : 0 ≤ v ∧ v < 4096
  · rw [if_neg (fun q => zB_z.mp q ⟨g.1, by omega⟩), if_pos g, z_div_of g.1 (by omega) (by decide), z_rem_of g.1 (by omega) (by decide) (by decide), zcv_98, yr_234 d h v g, zbs, zmG_v, zb_243_20]
    by_cases g2 : v ∈ yMv b c
    · rw [yT_pos g2, if_neg (by decide)]
    · rw [yT_neg g2, if_pos rfl]
  · rw [if_pos (zB_z.mpr (by omega)), if_neg g]
theorem yr_246 (h : yRs m w b c n e W F Z) : ∃ m', zmD zP (d + 7) 246 [zr 98] (zW L m) = some (some (zi (yStt b c)), zW L m') ∧ yFq (yPm 0) m m' ∧ yRs m' w b c n e W F Z := by
  obtain ⟨k1, k2, -⟩ := yRs_bd h
  obtain ⟨M, r1, r2, r3, r4⟩ := yr_now (L := L) d h
  have hatt : yT (yAtt (zbd m 0) (m 106 0)) = yT (yAtt b c) := by
    rw [h.2.1.2.2]
    exact yT_c ⟨yAtt_cg h.2.1.2.1, yAtt_cg (yAg_sym h.2.1.2.1)⟩
  unfold yStt
  rw [zen_246, zb_246_0, zgr_98_9, zbs, zai_106 (by decide) (by decide), zbs, zcv_98, zk_242 (d + 2) 0 _ (by decide) k2 k1, zbs, zmG_v, zb_246_11, zcv_98, r1, zbs, zmG_n, zb_246_17, hatt]
  refine ⟨M, ?_, r2, r3⟩
  by_cases g : yT (yAtt b c) = 0
  · rw [if_pos g, if_pos g, zgr_98_12, zbs, zai_108 (by decide) (by decide), zbs, r4.1]
    by_cases g2 : (yMv b c).length = 0
    · rw [if_neg (by omega), if_pos g2]
    · rw [if_pos (by omega), if_neg g2]
  · rw [if_neg g, if_neg g, zgr_98_12, zbs, zai_108 (by decide) (by decide), zbs, r4.1]
    by_cases g2 : (yMv b c).length = 0
    · rw [if_neg (by omega), if_pos g2]
    · rw [if_pos (by omega), if_neg g2]
theorem yr_245 (h : yRs m w b c n e W F Z) : ∃ m', zmD zP (d + 8) 245 [zr 98] (zW L m) = some (some (zi (yStt b c)), zW L m') ∧ yFr 98 117 m m' ∧ yRs m' w b c n e W F Z := by
  obtain ⟨M, r1, r2, r3⟩ := yr_246 (L := L) d h
  rw [zen_245, zb_245_0, zcv_98, r1, zbs, zmG_v, zb_245_4]
  exact ⟨M, rfl, yPm_fr r2, r3⟩
theorem yr_247 (h : yRs m w b c n e W F Z) (hn : 0 ≤ n ∧ n ≤ 2000000000) (v : Int) : ∃ m', zmD zP (d + 6) 247 [zr 98, zi v] (zW L m) = some (some (zi (if 0 ≤ v ∧ v < 4096 then (if yT (v ∈ yMv b c) = 0 then -3 else n + 1) else -2)), zW L m') ∧ yFr 98 117 m m' ∧ (v ∉ yMv b c → yRs m' w b c n e W F Z) ∧ (v ∈ yMv b c → yRs m' w (yPut b (v / 64) (v % 64)) (8 - c) (n + 1) e W F Z) := by
  rw [zen_247, zb_247_0, zk_244, zbs, zmG_v, zb_247_4]
  by_cases g : 0 ≤ v ∧ v < 4096
  · rw [if_neg (fun q => zB_z.mp q ⟨g.1, by omega⟩), if_pos g, z_div_of g.1 (by omega) (by decide), z_rem_of g.1 (by omega) (by decide) (by decide), zcv_98, yr_234 d h v g, zbs, zmG_v, zb_247_23]
    by_cases g2 : v ∈ yMv b c
    · obtain ⟨k1, k2, -⟩ := yRs_bd h
      have hf : 0 ≤ v / 64 ∧ v / 64 < 64 := by omega
      have ht : 0 ≤ v % 64 ∧ v % 64 < 64 := by omega
      have q : ∀ x, x ≠ 105 → x ≠ 106 → yApM m 0 v x = m x := fun x x1 x2 => by
        unfold yApM
        funext j
        rw [zup_ne x2, yPutM_ne x1]
      have q98 : yApM m 0 v 98 = m 98 := q 98 (by decide) (by decide)
      rw [yT_pos g2, if_neg (by decide), if_neg (by decide), zcv_98, zk_248 (d + 3) 0 v (by decide) g k1 k2, zbs, zmG_n, zb_247_35, zgi_98, zbs, q98, h.2.2.1.1, zpi_98, zbs, zgi_98, zbs, zup_self, w32_of (by omega) (by omega)]
      refine ⟨_, rfl, fun x hx => ?_, fun q => absurd g2 q, fun _ => ?_⟩
      · funext j
        rw [zup_ne (by omega), q x (by omega) (by omega)]
      · have kx : ∀ x, x ≠ 98 → x ≠ 105 → x ≠ 106 → zup (yApM m 0 v) 98 10 (n + 1) x = m x := fun x x1 x2 x3 => by
          funext j
          rw [zup_ne x1, q x x2 x3]
        have a0 := h.1
        refine yRs_mk h (fun x hx => kx x (by omega) (by omega) (by omega)) ⟨yRt_c a0.1 (kx 103 (by decide) (by decide) (by decide)) (kx 104 (by decide) (by decide) (by decide)), yRt_c a0.2.1 (kx 103 (by decide) (by decide) (by decide)) (kx 104 (by decide) (by decide) (by decide)), yRt_c a0.2.2 (kx 103 (by decide) (by decide) (by decide)) (kx 104 (by decide) (by decide) (by decide))⟩ ⟨yPu_put h.2.1.1 hf, ?_, ?_⟩ ⟨zup_self, ?_⟩
        · have e1 : zbd (zup (yApM m 0 v) 98 10 (n + 1)) 0 = yPut (zbd m 0) (v / 64) (v % 64) := by
            rw [zbd_98, ← zbd_putM hf ht]
            funext s
            unfold yApM zbd
            rw [zup_ne (by decide)]
          rw [e1]
          exact yPut_cg h.2.1.2.1 hf
        · rw [zup_ne (by decide)]
          unfold yApM
          rw [zup_self, h.2.1.2.2]
        · rw [zup_ne2 (by decide), q98]
          exact h.2.2.1.2
    · rw [yT_neg g2, if_pos rfl, if_pos rfl]
      exact ⟨m, rfl, yFr_rfl, fun _ => h, fun q => absurd q g2⟩
  · rw [if_pos (zB_z.mpr (by omega)), if_neg g]
    exact ⟨m, rfl, yFr_rfl, fun _ => h, fun q => absurd (yMv_go q).1 g⟩
end ZR
