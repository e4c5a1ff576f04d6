/-! the fault of a text in the reference -/
section ZR
variable {L : Nat} {m : Nat → Int → Int} (d : Nat) {w : Int → List Int} {b : Int → Int} {c n e : Int} {W F : Int → Int} {Z : Int → List Int}
theorem yr_215 (h : yRs m w b c n e W F Z) (t : Int) : ∃ m', zmD zP (d + 7) 215 [zr 98, zi t] (zW L m) = some (some (zi (yFault w t)), zW L m') ∧ yFr 98 117 m m' ∧ yRs m' w b c n e W F Z := by
  unfold yFault
  rw [zen_215, zb_215_0, zk_213, zbs, zmG_v, zb_215_4]
  by_cases g : 0 ≤ t ∧ t ≤ 2
  · rw [if_neg (fun q => zB_z.mp q g), zcv_98, zen_216, zb_216_0]
    by_cases g0 : t = 0
    · obtain ⟨M, r1, r2⟩ := zk_217 (L := L) d h.1.1
      rw [if_pos g0, if_pos g0, zcv_98, r1, zbs, zmG_v, zb_216_8, zb_216_27, zbs, zmG_v, zb_215_12]
      have F : yFq yPg m M := yFq_wd r2 fun x j q => by unfold yPf at q; unfold yPg; omega
      exact ⟨M, rfl, yPg_fr F, yRs_fr h F yPg_hold⟩
    rw [if_neg g0, if_neg g0]
    by_cases g1 : t = 1
    · obtain ⟨M, r1, r2, -⟩ := zk_218 (L := L) d h.1.2.1
      rw [if_pos g1, if_pos g1, zcv_98, r1, zbs, zmG_v, zb_216_20, zb_216_27, zbs, zmG_v, zb_215_12]
      have F : yFq yPg m M := yFq_wd r2 fun x j q => .inl ⟨q.1, .inl q.2⟩
      exact ⟨M, rfl, yPg_fr F, yRs_fr h F yPg_hold⟩
    rw [if_neg g1, if_neg g1, if_pos (by omega)]
    obtain ⟨M, r1, r2, -⟩ := zk_223 (L := L) d h.1.2.2
    rw [zcv_98, r1, zbs, zmG_v, zb_216_27, zbs, zmG_v, zb_215_12]
    exact ⟨M, rfl, yPg_fr r2, yRs_fr h r2 yPg_hold⟩
  · rw [if_pos (zB_z.mpr g), if_neg (by omega), if_neg (by omega), if_neg (by omega)]
    exact ⟨m, rfl, yFr_rfl, h⟩
end ZR
