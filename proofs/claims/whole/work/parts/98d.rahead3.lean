/-! ahead of the reference -/
section ZR
variable {L : Nat} {m : Nat → Int → Int} (d : Nat) {w : Int → List Int} {b : Int → Int} {c n e : Int} {W F : Int → Int} {Z : Int → List Int}
/-- the next of the best is looked for -/
theorem zk_285n {xs : List Int} (hm : m 108 1 = xs.length) (hle : xs.length ≤ 512) (g : Nat → Int) (hg : ∀ a : Nat, a < xs.length → m 113 a = g a) (l1 l2 l3 l4 l5 l6 : Int) : ∀ (k i : Nat) (p : Int), i + k = xs.length → yMx g i p → ∃ p' : Int, yMx g xs.length p' ∧ zmE (zmD zP d) zc_285 (98, [some (zr 98), some (zi l1), some (zi l2), some (zi l3), some (zi l4), some (zi l5), some (zi l6), some (zi p), some (zi i)], [], zW L m) = zmE (zmD zP d) zc_285 (98, [some (zr 98), some (zi l1), some (zi l2), some (zi l3), some (zi l4), some (zi l5), some (zi l6), some (zi p'), some (zi (xs.length))], [], zW L m) := fun k => by
  induction k with
  | zero =>
    intro i p hi hp
    rw [show i = xs.length by omega] at hp ⊢
    exact ⟨p, hp, rfl⟩
  | succ k ih =>
    intro i p hi hp
    have q := yMx_s hp
    have e1 := hg i (by omega)
    have take : 0 < g i ∧ (p = -1 ∨ g p.toNat < g i) → ∃ p' : Int, yMx g xs.length p' ∧ zmE (zmD zP d) zc_285 (142, [some (zr 98), some (zi l1), some (zi l2), some (zi l3), some (zi l4), some (zi l5), some (zi l6), some (zi p), some (zi i)], [], zW L m) = zmE (zmD zP d) zc_285 (98, [some (zr 98), some (zi l1), some (zi l2), some (zi l3), some (zi l4), some (zi l5), some (zi l6), some (zi p'), some (zi (xs.length))], [], zW L m) := fun c => by
      rw [if_pos c] at q
      rw [zb_285_142, zb_285_149, w32_of (by omega) (by omega)]
      exact ih (i + 1) i (by omega) q
    have leave : ¬ (0 < g i ∧ (p = -1 ∨ g p.toNat < g i)) → ∃ p' : Int, yMx g xs.length p' ∧ zmE (zmD zP d) zc_285 (147, [some (zr 98), some (zi l1), some (zi l2), some (zi l3), some (zi l4), some (zi l5), some (zi l6), some (zi p), some (zi i)], [], zW L m) = zmE (zmD zP d) zc_285 (98, [some (zr 98), some (zi l1), some (zi l2), some (zi l3), some (zi l4), some (zi l5), some (zi l6), some (zi p'), some (zi (xs.length))], [], zW L m) := fun c => by
      rw [if_neg c] at q
      rw [zb_285_147, zb_285_149, w32_of (by omega) (by omega)]
      exact ih (i + 1) p (by omega) q
    rw [zb_285_98, zgr_98_12, zbs, zai_108 (by decide) (by decide), zbs, hm, if_pos (by omega), zgr_98_26, zbs, zai_113 (by omega) (by omega), zbs, e1]
    by_cases g1 : 0 < g i
    · rw [if_pos g1]
      rcases hp with ⟨h1, h2⟩ | ⟨r, h1, h2, h3, h4⟩
      · rw [if_pos h1]
        exact take ⟨g1, .inl h1⟩
      · have e2 := hg r (by omega)
        rw [if_neg (by omega), zbs, zai_113 (by omega) (by omega), zbs, zbs, h1, zai_113 (by omega) (by omega), zbs, e1, e2]
        subst h1
        by_cases g2 : g r < g i
        · rw [if_pos g2]
          exact take ⟨g1, .inr (by rw [Int.toNat_natCast]; exact g2)⟩
        · rw [if_neg g2]
          refine leave fun c => ?_
          rcases c.2 with c | c
          · omega
          · rw [Int.toNat_natCast] at c
            exact g2 c
    · rw [if_neg g1]
      exact leave fun c => g1 c.1
theorem zk_285s {xs : List Int} {G : Nat → Int} (hle : xs.length ≤ 512) (k : Nat) (hk : k ≤ 9) (i l1 l3 l5 : Int) (hi : -1 ≤ i) : ∀ (j nn : Nat) (M : Nat → Int → Int) (o7 o8 : Option zmV), nn + j = k → nn ≤ (yRnk G xs.length).length → (i = -1 ∨ (nn : Int) ≤ i) → yRm M 1 xs → (∀ a : Nat, a < xs.length → M 113 a = yGl G (yRnk G xs.length) nn a) → ∃ m', zmE (zmD zP d) zc_285 (86, [some (zr 98), some (zi l1), some (zi k), some (zi l3), some (zi i), some (zi l5), some (zi nn), o7, o8], [], zW L M) = some (some (zi (if i = -1 then ((yRnk G xs.length).take k).length else if i < ((yRnk G xs.length).take k).length then xs.getD (((yRnk G xs.length).take k).getD i.toNat 0) 0 else -1)), zW L m') ∧ yFq (fun x _ => x = 113) M m' := fun j => by
  induction j with
  | zero =>
    intro nn M o7 o8 hn ht hin f1 f2
    have hl : ((yRnk G xs.length).take k).length = k := by
      rw [List.length_take]
      omega
    rw [zb_285_86, if_neg (by omega), hl]
    refine ⟨M, ?_, yFq_rfl⟩
    by_cases g : i = -1
    · rw [if_pos g, if_pos g]
    · rw [if_neg g, if_neg g, if_neg (by omega)]
  | succ j ih =>
    intro nn M o7 o8 hn ht hin f1 f2
    obtain ⟨p, p1, p2⟩ := zk_285n (L := L) (m := M) d f1.1 hle _ f2 l1 k l3 i l5 nn xs.length 0 (-1) (by omega) (.inl ⟨rfl, fun a ha => absurd ha (Nat.not_lt_zero a)⟩)
    rw [zb_285_86, if_pos (by omega)]
    have p2' : zmE (zmD zP d) zc_285 (98, [some (zr 98), some (zi l1), some (zi k), some (zi l3), some (zi i), some (zi l5), some (zi nn), some (zi (-1)), some (zi 0)], [], zW L M) = _ := p2
    rw [p2', zb_285_98, zgr_98_12, zbs, zai_108 (by decide) (by decide), zbs, f1.1, if_neg (by omega)]
    by_cases g : nn < (yRnk G xs.length).length
    · obtain ⟨q1, q2, q3⟩ := yGl_pick (G := G) g
      have ep := yMx_is p1 q1 q2 q3
      have e1 := yRm_i f1 (i := (yRnk G xs.length).getD nn 0) q1
      rw [if_neg (by omega)]
      by_cases g2 : (nn : Int) = i
      · have e2 : ((yRnk G xs.length).take k).getD i.toNat 0 = (yRnk G xs.length).getD nn 0 := by
          rw [show i.toNat = nn by omega, ynget_t (by omega)]
        have hlt : nn < ((yRnk G xs.length).take k).length := by
          rw [List.length_take]
          omega
        rw [if_pos g2, zgr_98_11, zbs, ep, w32_of (by omega) (by omega), zai_107 (by omega) (by omega), zbs, show (512 : Int) + ((yRnk G xs.length).getD nn 0 : Nat) = 512 * 1 + ((yRnk G xs.length).getD nn 0 : Nat) by omega, e1, if_neg (by omega), if_pos (by omega), e2]
        exact ⟨M, rfl, yFq_rfl⟩
      · rw [if_neg g2, zgr_98_26, zbs, ep, zsi_113 (by omega) (by omega), zbs, w32_of (by omega) (by omega)]
        have kx : yFq (fun x _ => x = 113) M (zup M 113 ((yRnk G xs.length).getD nn 0 : Nat) 0) := yFq_up yFq_rfl rfl
        obtain ⟨m', u1, u2⟩ := ih (nn + 1) (zup M 113 ((yRnk G xs.length).getD nn 0 : Nat) 0) (some (zi ((yRnk G xs.length).getD nn 0 : Nat))) (some (zi xs.length)) (by omega) (by omega) (by omega) (yRm_fq f1 kx (fun j _ _ q => absurd q (by decide)) (fun q => absurd q (by decide))) fun a ha => by
          rw [yGl_s g]
          by_cases g3 : a = (yRnk G xs.length).getD nn 0
          · rw [if_pos g3, g3, zup_self]
          · rw [if_neg g3, zup_ne2 (by omega)]
            exact f2 a ha
        exact ⟨m', u1, yFq_tr kx u2⟩
    · have hl : ((yRnk G xs.length).take k).length = nn := by
        rw [List.length_take]
        omega
      have ep := yMx_no p1 (yGl_end (G := G) (N := xs.length) (n := nn) (by omega))
      rw [if_pos ep, hl]
      refine ⟨M, ?_, yFq_rfl⟩
      by_cases g2 : i = -1
      · rw [if_pos g2, if_pos g2]
      · rw [if_neg g2, if_neg g2, if_neg (by omega)]
theorem yr_285 (h : yRs m w b c n e W F Z) {v : Int} (hv : v ∈ yMv b c) (k : Nat) (hk : k ≤ 9) (fee i : Int) (hf : 0 ≤ fee ∧ fee ≤ 99) (hi : -1 ≤ i) : ∃ m', zmD zP (d + 8) 285 [zr 98, zi v, zi k, zi fee, zi i] (zW L m) = some (some (zi (if i = -1 then (yTpk (yBv b v) (8 - c) W fee k).length else if i < (yTpk (yBv b v) (8 - c) W fee k).length then (yMv (yBv b v) (8 - c)).getD ((yTpk (yBv b v) (8 - c) W fee k).getD i.toNat 0) 0 else -1)), zW L m') ∧ yFr 98 117 m m' ∧ yRs m' w b c n e W F Z := by
  obtain ⟨M0, r1, r2, r3, r4⟩ := yr_273 (L := L) d h hv
  have hW0 := yW_2 (yRs_W h) r2
  have hle := r4.2.1
  unfold yTpk
  rw [Int.toNat_natCast]
  have eG : ∀ r : Nat, yGz (yBv b v) (8 - c) W fee r = if yRaa (yBv b v) (8 - c) ((yMv (yBv b v) (8 - c)).getD r 0) = -1 then 0 else yGu (yBv b v) (8 - c) W fee ((yMv (yBv b v) (8 - c)).getD r 0) := fun r => rfl
  rw [zen_285, zb_285_0, zcv_98, r1, zbs, zmG_n, zb_285_5, zcv_98, yr_281 (d + 5) r3 r4 hW0, zbs, zmG_v, zb_285_9]
  generalize yBv b v = b1 at *
  generalize 8 - c = c1 at *
  suffices fill : ∀ (j r : Nat) (M : Nat → Int → Int) (o7 o8 : Option zmV), r + j = (yMv b1 c1).length → yFq yPk9 m M → yRl M 1 b1 c1 → yRm M 1 (yMv b1 c1) → (∀ i : Int, 0 ≤ i → i < 6 → M 111 i = W i ∧ 0 ≤ W i ∧ W i ≤ 9) → (∀ a : Nat, a < r → M 113 a = yGz b1 c1 W fee a) → ∃ m', zmE (zmD zP (d+7)) zc_285 (14, [some (zr 98), some (zi v), some (zi k), some (zi fee), some (zi i), some (zi (ySumL (yWm W b1) (yMv b1 c1))), some (zi r), o7, o8], [], zW L M) = some (some (zi (if i = -1 then ((yRnk (yGz b1 c1 W fee) (yMv b1 c1).length).take k).length else if i < ((yRnk (yGz b1 c1 W fee) (yMv b1 c1).length).take k).length then (yMv b1 c1).getD (((yRnk (yGz b1 c1 W fee) (yMv b1 c1).length).take k).getD i.toNat 0) 0 else -1)), zW L m') ∧ yFq yPk9 m m' by
    obtain ⟨m', u1, u2⟩ := fill (yMv b1 c1).length 0 M0 none none (by omega) (yPk9_1 r2) r3 r4 hW0 fun a ha => absurd ha (Nat.not_lt_zero a)
    exact ⟨m', u1, yPk9_fr u2, yRs_fr h u2 yPk9_hold⟩
  intro j
  induction j with
  | zero =>
    intro r M o7 o8 hr f1 f2 f3 f4 f5
    rw [zb_285_14, zgr_98_12, zbs, zai_108 (by decide) (by decide), zbs, f3.1, if_neg (by omega)]
    obtain ⟨m', u1, u2⟩ := zk_285s (L := L) (G := yGz b1 c1 W fee) (d + 7) hle k hk i v fee (ySumL (yWm W b1) (yMv b1 c1)) hi k 0 M o7 o8 (by omega) (Nat.zero_le _) (by omega) f3 fun a ha => by
      rw [f5 a (by omega)]
      unfold yGl
      rw [List.take_zero, if_neg List.not_mem_nil]
    exact ⟨m', u1, yFq_tr f1 fun x j hx => u2 x j fun q => hx (.inr q)⟩
  | succ j ih =>
    intro r M o7 o8 hr f1 f2 f3 f4 f5
    have hu : (yMv b1 c1).getD r 0 ∈ yMv b1 c1 := yMem_get.mpr ⟨r, by omega, rfl⟩
    have e1 := yRm_i f3 (i := r) (by omega)
    rw [show (512 : Int) * 1 + (r : Nat) = 512 + r by omega] at e1
    obtain ⟨M2, s1, s2, s3, s4⟩ := yr_276 (L := L) (m := M) d f2 hu
    have a1 := yRl_1 f2 s2
    have a2 := yRm_1 f3 s2
    have a3 := yW_2 f4 (yPlv_le (by decide) s2)
    have e2 := yRm_i a2 (i := r) (by omega)
    rw [show (512 : Int) * 1 + (r : Nat) = 512 + r by omega] at e2
    have F2 := yFq_tr f1 (yPk9_1 (yPlv_le (l := 1) (by decide) s2))
    have k113 : ∀ a : Int, M2 113 a = M 113 a := fun a => s2 113 a (by unfold yPlv yS8; omega)
    rw [zb_285_14, zgr_98_12, zbs, zai_108 (by decide) (by decide), zbs, f3.1, if_pos (by omega), zgr_98_11, zbs, w32_of (z := 512 + (r : Int)) (by omega) (by omega), zai_107 (by omega) (by omega), zbs, e1, zcv_98, s1, zbs, zmG_n, zb_285_40, zgr_98_26, zbs, zgi_98, zbs, s3]
    have put : ∀ M3 : Nat → Int → Int, yFq yPk9 m M3 → yRl M3 1 b1 c1 → yRm M3 1 (yMv b1 c1) → (∀ i : Int, 0 ≤ i → i < 6 → M3 111 i = W i ∧ 0 ≤ W i ∧ W i ≤ 9) → (∀ a : Int, M3 113 a = M 113 a) → ∃ m', zmE (zmD zP (d+7)) zc_285 (76, [some (zr 98), some (zi v), some (zi k), some (zi fee), some (zi i), some (zi (ySumL (yWm W b1) (yMv b1 c1))), some (zi r), o7, o8], [zi (yGz b1 c1 W fee r), zi r, zr 113], zW L M3) = some (some (zi (if i = -1 then ((yRnk (yGz b1 c1 W fee) (yMv b1 c1).length).take k).length else if i < ((yRnk (yGz b1 c1 W fee) (yMv b1 c1).length).take k).length then (yMv b1 c1).getD (((yRnk (yGz b1 c1 W fee) (yMv b1 c1).length).take k).getD i.toNat 0) 0 else -1)), zW L m') ∧ yFq yPk9 m m' := fun M3 q1 q2 q3 q4 q5 => by
      have kx : yFq (fun x _ => x = 113) M3 (zup M3 113 r (yGz b1 c1 W fee r)) := yFq_up yFq_rfl rfl
      rw [zb_285_76, zsi_113 (by omega) (by omega), zbs, w32_of (by omega) (by omega)]
      refine ih (r + 1) _ o7 o8 (by omega) (yFq_tr q1 fun x j hx => kx x j fun q => hx (.inr q)) (yRl_fr q2 kx (fun j _ _ q => absurd q (by decide)) (fun q => absurd q (by decide))) (yRm_fq q3 kx (fun j _ _ q => absurd q (by decide)) (fun q => absurd q (by decide))) (fun i i1 i2 => by rw [zup_ne (by decide)]; exact q4 i i1 i2) fun a ha => ?_
      by_cases g3 : a = r
      · rw [g3, zup_self]
      · rw [zup_ne2 (by omega), q5, f5 a (by omega)]
    by_cases g : yRaa b1 c1 ((yMv b1 c1).getD r 0) = -1
    · have := put M2 F2 a1 a2 a3 k113
      rw [eG r, if_pos g] at this
      rw [if_pos g]
      exact this
    · obtain ⟨M3, t1, t2⟩ := yr_282 (L := L) (d + 3) a1 a2 a3 hu fee hf s4
      have F3 := yFq_tr F2 (yPk9_1 (yPlv_s t2))
      have := put M3 F3 (yRl_fr a1 t2 (fun j _ _ q => by unfold yS8 at q; omega) (fun q => by unfold yS8 at q; omega)) (yRm_fq a2 t2 (fun j _ _ q => by unfold yS8 at q; omega) (fun q => by unfold yS8 at q; omega)) (yW_2 a3 (yPlv_s t2)) fun a => (t2 113 a (by unfold yS8; omega)).trans (k113 a)
      rw [eG r, if_neg g] at this
      rw [if_neg g, zgr_98_11, zbs, w32_of (z := 512 + (r : Int)) (by omega) (by omega), zai_107 (by omega) (by omega), zbs, e2, zcv_98, t1, zbs, zmG_v]
      exact this
theorem yr_284 (h : yRs m w b c n e W F Z) (v k fee i : Int) : ∃ m', zmD zP (d + 9) 284 [zr 98, zi v, zi k, zi fee, zi i] (zW L m) = some (some (zi (yAhV b c W v k fee i)), zW L m') ∧ yFr 98 117 m m' ∧ yRs m' w b c n e W F Z := by
  unfold yAhV
  rw [zen_284, zb_284_0, zk_244, zbs, zmG_v, zb_284_4]
  by_cases g : 0 ≤ v ∧ v < 4096
  · rw [if_neg (fun q => zB_z.mp q (by omega)), zk_201, zbs, zmG_v, zb_284_16]
    by_cases gk : 0 ≤ k ∧ k ≤ 9
    · rw [if_neg (fun q => zB_z.mp q gk), zk_278, zbs, zmG_v, zb_284_23]
      by_cases gf : 0 ≤ fee ∧ fee ≤ 99
      · rw [if_neg (fun q => zB_z.mp q gf)]
        by_cases gi : i < -1
        · rw [if_pos gi, if_neg (c := (0 ≤ v ∧ v < 4096) ∧ (0 ≤ k ∧ k ≤ 9) ∧ (0 ≤ fee ∧ fee ≤ 99) ∧ -1 ≤ i) (by omega)]
          exact ⟨m, rfl, yFr_rfl, h⟩
        · rw [if_neg gi, if_pos (c := (0 ≤ v ∧ v < 4096) ∧ (0 ≤ k ∧ k ≤ 9) ∧ (0 ≤ fee ∧ fee ≤ 99) ∧ -1 ≤ i) ⟨g, gk, gf, by omega⟩, zcv_98, yr_272 (d + 2) h g, zbs, zmG_v, zb_284_40]
          by_cases g2 : yT (v ∈ yMv b c) = 0
          · rw [if_pos g2, if_pos g2]
            exact ⟨m, rfl, yFr_rfl, h⟩
          · have hv : v ∈ yMv b c := Classical.byContradiction fun q => g2 (yT_neg q)
            obtain ⟨M, r1, r2, r3⟩ := yr_285 (L := L) d h hv k.toNat (by omega) fee i gf (by omega)
            rw [show ((k.toNat : Nat) : Int) = k by omega] at r1
            rw [if_neg g2, if_neg g2, zcv_98, r1, zbs, zmG_v, zb_284_52]
            exact ⟨M, rfl, r2, r3⟩
      · rw [if_pos (zB_z.mpr gf), if_neg (c := (0 ≤ v ∧ v < 4096) ∧ (0 ≤ k ∧ k ≤ 9) ∧ (0 ≤ fee ∧ fee ≤ 99) ∧ -1 ≤ i) (fun q => gf q.2.2.1)]
        exact ⟨m, rfl, yFr_rfl, h⟩
    · rw [if_pos (zB_z.mpr gk), if_neg (c := (0 ≤ v ∧ v < 4096) ∧ (0 ≤ k ∧ k ≤ 9) ∧ (0 ≤ fee ∧ fee ≤ 99) ∧ -1 ≤ i) (fun q => gk q.2.1)]
      exact ⟨m, rfl, yFr_rfl, h⟩
  · rw [if_pos (zB_z.mpr (by omega)), if_neg (c := (0 ≤ v ∧ v < 4096) ∧ (0 ≤ k ∧ k ≤ 9) ∧ (0 ≤ fee ∧ fee ≤ 99) ∧ -1 ≤ i) (fun q => g q.1)]
    exact ⟨m, rfl, yFr_rfl, h⟩
end ZR
