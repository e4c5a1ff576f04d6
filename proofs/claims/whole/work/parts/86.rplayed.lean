/-! played, move, purse of the reference -/
section ZR
variable {L : Nat} {m : Nat → Int → Int} (d : Nat) {w : Int → List Int} {b : Int → Int} {c n e : Int} {W F : Int → Int} {Z : Int → List Int}
theorem yRt_60 {w : List Int} (h : yRt m 2 w) : w.length ≤ 60 := by
  have := h.2.2.1
  unfold yCap at this
  rw [if_neg (by decide)] at this
  split at this <;> omega
theorem zk_288 (h : yRs m w b c n e W F Z) (v : Int) : ∃ m', zmD zP (d + 8) 288 [zr 98, zi v] (zW L m) = some (none, zW L m') ∧ yFq yPgm m m' ∧ m' 98 31 = (yGo (yGa (w 2)) b c).length ∧ m' 98 30 = (if (yGo (yGa (w 2)) b c).length < (yGa (w 2)).length then ((yGo (yGa (w 2)) b c).length : Int) else -1) ∧ m' 98 32 = ySp (yGa (w 2)) (yGo (yGa (w 2)) b c).length ∧ m' 98 33 = yFb (yGa (w 2)) v (yGo (yGa (w 2)) b c).length ∧ ∀ j : Nat, j < (yGo (yGa (w 2)) b c).length → m' 115 j = (yGo (yGa (w 2)) b c).getD j 0 := by
  have h60 := yRt_60 h.1.2.2
  obtain ⟨M, r1, r2, r3, r4, r5⟩ := zk_223 (L := L) (d + 2) h.1.2.2
  have F0 : yFq yPgm m M := yFq_wd r2 fun x j q => by unfold yPg at q; unfold yPgm; omega
  have hR := yRs_fr h F0 yPgm_hold
  have h27 : M 98 27 = (yGa (w 2)).length := by
    by_cases g0 : w 2 = []
    · rw [r3 g0, yGa_no (.inl g0)]
      rfl
    · by_cases g1 : yGf (w 2) = -1
      · rw [(r4 g0 g1).1, yGa_ok g0 g1]
        omega
      · rw [r5 g1, yGa_no (.inr g1)]
        rfl
  have hst : (yGa (w 2)).length ≠ 0 → yGa (w 2) = yPcs (w 2) ∧ ∀ j : Nat, j ≤ (yPcs (w 2)).length → M 114 j = yOff (yPcs (w 2)) j := fun q => by
    have g0 : w 2 ≠ [] := fun k => q (by rw [yGa_no (.inl k)]; rfl)
    have g1 : yGf (w 2) = -1 := Classical.byContradiction fun k => q (by rw [yGa_no (.inr k)]; rfl)
    refine ⟨yGa_ok g0 g1, fun j hj => ?_⟩
    have := (r4 g0 g1).2.2 j hj
    rw [Nat.zero_add] at this
    rw [this]
    omega
  rw [zen_288, zb_288_0, zcv_98, r1, zbs, zmG_v, zb_288_4, zcv_98, zk_275 (d + 6) 0 (by decide), zbs, zmG_n, zb_288_10, zpi_98, zbs, zpi_98, zbs, zpi_98, zbs, zpi_98, zbs]
  have ex : ∀ x, x ≠ 105 → x ≠ 106 → yCpM M 0 x = M x := fun x x1 x2 => by
    unfold yCpM
    funext j
    rw [zup_ne x2, yCpN_ne x1]
  have F1 : yFq yPgm m (yCpM M 0) := fun x j hx => by
    rw [← F0 x j hx]
    unfold yCpM
    rw [show (0 : Int) + 1 = 1 by decide]
    unfold zup yCpN
    rw [if_neg (fun q => hx (by unfold yPgm; omega)), if_neg (fun q => hx (by unfold yPgm; omega))]
  have e06 : yCpM M 0 106 1 = c := by
    have : yCpM M 0 106 (0 + 1) = M 106 0 := zup_self
    exact this.trans hR.2.1.2.2
  have ez : yAg (zbd (yCpM M 0) 1) b := fun s s1 s2 => by
    have : zbd (yCpM M 0) (0 + 1) s = zbd M 0 s := zbd_cpM ⟨s1, s2⟩
    exact this.trans (hR.2.1.2.1 s s1 s2)
  generalize yCpM M 0 = M1 at *
  have ky : ∀ x, x ≠ 98 → zup (zup (zup (zup M1 98 30 (-1)) 98 31 0) 98 32 0) 98 33 (-1) x = M1 x := fun x hx => by
    funext j
    rw [zup_ne hx, zup_ne hx, zup_ne hx, zup_ne hx]
  obtain ⟨m', u1, u2, u3, u4, u5, u6, u7, u8⟩ := zk_288g (L := L) (m := m) d h.1.2.2 v yGa_le (fun k hk => yGa_sum h60 k hk) (yGa (w 2)).length 0 (zup (zup (zup (zup M1 98 30 (-1)) 98 31 0) 98 32 0) 98 33 (-1)) b c none none none (by omega) (yFq_up (yFq_up (yFq_up (yFq_up F1 (by unfold yPgm; omega)) (by unfold yPgm; omega)) (by unfold yPgm; omega)) (by unfold yPgm; omega)) (by rw [zup_ne2 (by decide), zup_ne2 (by decide), zup_ne2 (by decide), zup_ne2 (by decide), ex 98 (by decide) (by decide), h27]) (fun q => ⟨(hst q).1, fun j hj => by rw [ky 114 (by decide), ex 114 (by decide) (by decide), (hst q).2 j hj]⟩) (by rw [zup_ne2 (by decide), zup_ne2 (by decide), zup_ne2 (by decide), zup_self]) (by rw [zup_ne2 (by decide), zup_ne2 (by decide), zup_self]; rfl) (by rw [zup_ne2 (by decide), zup_self, ySp_0]) (by rw [zup_self]; rfl) h.2.1.1 (by
    have : zbd (zup (zup (zup (zup M1 98 30 (-1)) 98 31 0) 98 32 0) 98 33 (-1)) 1 = zbd M1 1 := by
      unfold zbd
      rw [ky 105 (by decide)]
    rw [this]
    exact ez) (by rw [ky 106 (by decide), e06])
  rw [List.drop_zero] at u3 u4 u5 u6 u8
  rw [Nat.zero_add] at u4 u5 u6
  refine ⟨m', u1, u2, by rw [u3]; omega, u4, u5, u6, fun j hj => ?_⟩
  have := u8 j hj
  rw [Nat.zero_add] at this
  exact this
theorem yr_286 (h : yRs m w b c n e W F Z) (a : Int) : ∃ m', zmD zP (d + 10) 286 [zr 98, zi a] (zW L m) = some (some (zi (if 0 ≤ a ∧ a ≤ 2 then yGt (yGa (w 2)) b c a else -2)), zW L m') ∧ yFr 98 117 m m' ∧ yRs m' w b c n e W F Z := by
  rw [zen_286, zb_286_0, zk_201, zbs, zmG_v, zb_286_9]
  by_cases g : 0 ≤ a ∧ a ≤ 2
  · obtain ⟨M, r1, r2, r3, r4, r5, r6, r7⟩ := zk_288 (L := L) d h 0
    rw [if_neg (fun q => zB_z.mp q g), if_pos g, zcv_98, zen_287, zb_287_0, zcv_98, r1, zbs, zmG_n, zb_287_5]
    refine ⟨M, ?_, yPgm_fr r2, yRs_fr h r2 yPgm_hold⟩
    unfold yGt
    by_cases g1 : a = 0
    · rw [if_pos g1, if_pos g1, zgi_98, zbs, r4, zbs, zmG_v, zb_286_17]
    rw [if_neg g1, if_neg g1]
    by_cases g2 : a = 1
    · rw [if_pos g2, if_pos g2, zgi_98, zbs, r3, zbs, zmG_v, zb_286_17]
    · rw [if_neg g2, if_neg g2, zgi_98, zbs, r5, zbs, zmG_v, zb_286_17]
  · rw [if_pos (zB_z.mpr g), if_neg g]
    exact ⟨m, rfl, yFr_rfl, h⟩
theorem yr_290 (h : yRs m w b c n e W F Z) (i : Int) : ∃ m', zmD zP (d + 9) 290 [zr 98, zi i] (zW L m) = some (some (zi (if i < 0 then -2 else yGet (yGo (yGa (w 2)) b c) i)), zW L m') ∧ yFr 98 117 m m' ∧ yRs m' w b c n e W F Z := by
  rw [zen_290, zb_290_0]
  by_cases g : i < 0
  · rw [if_pos g, if_pos g]
    exact ⟨m, rfl, yFr_rfl, h⟩
  obtain ⟨M, r1, r2, r3, r4, r5, r6, r7⟩ := zk_288 (L := L) d h 0
  have hle := yGo_le (b := b) (c := c) (yGa (w 2)) b c
  have h12 := yGa_le (w := w 2)
  refine ⟨M, ?_, yPgm_fr r2, yRs_fr h r2 yPgm_hold⟩
  rw [if_neg g, if_neg g, zcv_98, r1, zbs, zmG_n, zb_290_12, zgi_98, zbs, r3]
  unfold yGet
  by_cases g2 : i < (yGo (yGa (w 2)) b c).length
  · have e1 := r7 i.toNat (by omega)
    rw [show ((i.toNat : Nat) : Int) = i by omega] at e1
    rw [if_pos g2, if_pos ⟨by omega, g2⟩, zgr_98_29, zbs, zai_115 (by omega) (by omega), zbs, e1]
  · rw [if_neg g2, if_neg (fun q => g2 q.2)]
theorem yr_291 (h : yRs m w b c n e W F Z) (v : Int) : ∃ m', zmD zP (d + 10) 291 [zr 98, zi v] (zW L m) = some (some (zi (if 0 ≤ v ∧ v ≤ 99 then yFa (yGa (w 2)) v (yGo (yGa (w 2)) b c).length (yGo (yGa (w 2)) b c).length else -2)), zW L m') ∧ yFr 98 117 m m' ∧ yRs m' w b c n e W F Z := by
  rw [zen_291, zb_291_0, zk_201, zbs, zmG_v, zb_291_9]
  by_cases g : 0 ≤ v ∧ v ≤ 99
  · obtain ⟨M, r1, r2, r3, r4, r5, r6, r7⟩ := zk_288 (L := L) d h v
    rw [if_neg (fun q => zB_z.mp q g), if_pos g, zcv_98, zen_292, zb_292_0, zcv_98, r1, zbs, zmG_n, zb_292_5, zgi_98, zbs, r6, zbs, zmG_v, zb_291_17, yFa_b _ (Nat.le_refl _) (by rw [Nat.sub_self]; rfl)]
    exact ⟨M, rfl, yPgm_fr r2, yRs_fr h r2 yPgm_hold⟩
  · rw [if_pos (zB_z.mpr g), if_neg g]
    exact ⟨m, rfl, yFr_rfl, h⟩
end ZR
