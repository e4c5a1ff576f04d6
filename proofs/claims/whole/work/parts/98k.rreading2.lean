/-! readings and reading of the reference -/
def yPz0 (x : Nat) (j : Int) : Prop := x = 105 ∧ 64 ≤ j ∨ x = 106 ∧ 1 ≤ j ∨ x = 107 ∨ x = 108 ∨ x = 98 ∧ (13 ≤ j ∧ j ≤ 17 ∨ j = 34 ∨ j = 37 ∨ j = 27 ∨ j = 7) ∨ x = 116 ∨ x = 117 ∨ x = 114
theorem yPz0_hold : ∀ x j, yHoldR x j → ¬ yPz0 x j := fun x j h q => by
  unfold yHoldR at h
  unfold yPz0 at q
  omega
theorem yPz0_fr {m m' : Nat → Int → Int} (h : yFq yPz0 m m') : yFr 98 117 m m' := yFr_of h fun x j q => by
  unfold yPz0 at q
  omega
section ZR
variable {L : Nat} {m : Nat → Int → Int} (d : Nat) {w : Int → List Int} {b : Int → Int} {c n e : Int} {W F : Int → Int} {Z : Int → List Int}
/-- a fresh start for the readings -/
theorem zk_294c : ∀ (k i : Nat) (M : Nat → Int → Int), i + k = 12288 → (∀ j : Int, 0 ≤ j → j < i → M 117 j = 0) → ∃ m', zmE (zmD zP d) zc_294 (49, [some (zr 98), some (zi i)], [], zW L M) = zmE (zmD zP d) zc_294 (49, [some (zr 98), some (zi 12288)], [], zW L m') ∧ yFq (fun x _ => x = 117) M m' ∧ ∀ j : Int, 0 ≤ j → j < 12288 → m' 117 j = 0 := fun k => by
  induction k with
  | zero =>
    intro i M hi f
    rw [show i = 12288 by omega] at f ⊢
    exact ⟨M, rfl, yFq_rfl, f⟩
  | succ k ih =>
    intro i M hi f
    obtain ⟨m', r1, r2, r3⟩ := ih (i + 1) (zup M 117 i 0) (by omega) fun j j1 j2 => by
      by_cases g : j = i
      · rw [g, zup_self]
      · rw [zup_ne2 g]
        exact f j j1 (by omega)
    refine ⟨m', ?_, yFq_tr (yFq_up yFq_rfl rfl) r2, r3⟩
    rw [zb_294_49, if_pos (by omega), zgr_98_36, zbs, zsz_117 (by omega) (by omega) (.inl rfl), zbs, w32_of (by omega) (by omega)]
    exact r1
theorem zk_294f : ∃ m', zmE (zmD zP d) zc_294 (29, [some (zr 98), some (zi 0)], [], zW L m) = zmE (zmD zP d) zc_294 (49, [some (zr 98), some (zi 12288)], [], zW L m') ∧ yFq (fun x _ => x = 116 ∨ x = 117) m m' ∧ (∀ k : Nat, k < 3 → m' 116 k = -1) ∧ ∀ j : Int, 0 ≤ j → j < 12288 → m' 117 j = 0 := by
  obtain ⟨m', r1, r2, r3⟩ := zk_294c (L := L) d 12288 0 (zup (zup (zup m 116 0 (-1)) 116 1 (-1)) 116 2 (-1)) (by omega) fun j j1 j2 => by omega
  have r1' : zmE (zmD zP d) zc_294 (49, [some (zr 98), some (zi 0)], [], zW L (zup (zup (zup m 116 0 (-1)) 116 1 (-1)) 116 2 (-1))) = _ := r1
  refine ⟨m', ?_, yFq_tr (yFq_up (yFq_up (yFq_up yFq_rfl (.inl rfl)) (.inl rfl)) (.inl rfl)) (yFq_wd r2 fun x j q => .inr q), fun k hk => ?_, r3⟩
  · rw [zb_294_29, if_pos (by decide), zgr_98_35, zbs, zsi_116 (by decide) (by decide), zbs, w32_of (by decide) (by decide), zb_294_29, if_pos (by decide), zgr_98_35, zbs, zsi_116 (by decide) (by decide), zbs, w32_of (by decide) (by decide), zb_294_29, if_pos (by decide), zgr_98_35, zbs, zsi_116 (by decide) (by decide), zbs, w32_of (by decide) (by decide), zb_294_29, if_neg (by decide)]
    exact r1'
  · rw [r2 116 k (by omega)]
    have : k = 0 ∨ k = 1 ∨ k = 2 := by omega
    rcases this with rfl | rfl | rfl
    · show zup (zup (zup m 116 0 _) 116 1 _) 116 2 _ 116 0 = _
      rw [zup_ne2 (by decide), zup_ne2 (by decide), zup_self]
    · show zup (zup (zup m 116 0 _) 116 1 _) 116 2 _ 116 1 = _
      rw [zup_ne2 (by decide), zup_self]
    · show zup (zup (zup m 116 0 _) 116 1 _) 116 2 _ 116 2 = _
      rw [zup_self]
theorem yMks_none {k : Nat} {v : Int} : ¬ yMks 0 [[]] k v := by
  rintro ⟨s, s1, s2, s3, -⟩
  rw [List.mem_singleton.mp s1, List.length_nil] at s3
  omega
theorem zk_294 (h : yRs m w b c n e W F Z) : ∃ m', zmD zP (d + 10) 294 [zr 98] (zW L m) = some (none, zW L m') ∧ yFq yPz0 m m' ∧ (yBad (yGa (w 2)) b c = 1 → m' 98 37 = 1) ∧ (yBad (yGa (w 2)) b c ≠ 1 → m' 98 37 = 0 ∧ yRq m' (yRdg (yGa (w 2)) b c)) := by
  obtain ⟨M, r1, r2, r3, r4, r5⟩ := zk_223 (L := L) (d + 4) h.1.2.2
  have h12 := yGa_le (w := w 2)
  have h27 : M 98 27 = (yGa (w 2)).length := by
    by_cases g0 : w 2 = []
    · rw [r3 g0, yGa_no (.inl g0)]
      rfl
    · by_cases g1 : yGf (w 2) = -1
      · rw [(r4 g0 g1).1, yGa_ok g0 g1]
        omega
      · rw [r5 g1, yGa_no (.inr g1)]
        rfl
  have hst : (yGa (w 2)).length ≠ 0 → yGa (w 2) = yPcs (w 2) ∧ ∀ j : Nat, j ≤ (yPcs (w 2)).length → M 114 j = yOff (yPcs (w 2)) j := fun q => by
    have g0 : w 2 ≠ [] := fun k => q (by rw [yGa_no (.inl k)]; rfl)
    have g1 : yGf (w 2) = -1 := Classical.byContradiction fun k => q (by rw [yGa_no (.inr k)]; rfl)
    refine ⟨yGa_ok g0 g1, fun j hj => ?_⟩
    have := (r4 g0 g1).2.2 j hj
    rw [Nat.zero_add] at this
    rw [this]
    omega
  have F0 : yFq yPg m M := r2
  have on0 : yRl M 0 b c := yRl_fr (yRl_0 h) F0 (fun j j1 j2 q => by unfold yPg at q; omega) (fun q => by unfold yPg at q; omega)
  have cx0 : yCx M (w 2) := ⟨yRt_fr h.1.2.2 F0 yPg_text, h27, hst⟩
  rw [zen_294, zb_294_0, zcv_98, r1, zbs, zmG_v, zb_294_4, zpi_98, zbs, zgi_98, zbs, zup_ne2 (by decide), h27]
  -- after the check of the number of parts
  have go : ∀ z : Int, z = (if 3 < (yGa (w 2)).length then 1 else 0) → ∃ m', zmE (zmD zP (d+9)) zc_294 (24, [some (zr 98), none], [zi z, zr 98], zW L (zup M 98 34 0)) = some (none, zW L m') ∧ yFq yPz0 m m' ∧ (yBad (yGa (w 2)) b c = 1 → m' 98 37 = 1) ∧ (yBad (yGa (w 2)) b c ≠ 1 → m' 98 37 = 0 ∧ yRq m' (yRdg (yGa (w 2)) b c)) := fun z hz => by
    have hz01 : z = 0 ∨ z = 1 := by rw [hz]; split <;> omega
    obtain ⟨M2, s1, s2, s3, s4⟩ := zk_294f (L := L) (m := zup (zup M 98 34 0) 98 37 z) (d + 9)
    have s1' : zmE (zmD zP (d+9)) zc_294 (29, [some (zr 98), some (zi 0)], [], zW L (zup (zup M 98 34 0) 98 37 z)) = _ := s1
    have k37 : M2 98 37 = z := by rw [s2 98 37 (by omega), zup_self]
    have k34 : M2 98 34 = 0 := by rw [s2 98 34 (by omega), zup_ne2 (by decide), zup_self]
    have k27 : M2 98 27 = (yGa (w 2)).length := by rw [s2 98 27 (by omega), zup_ne2 (by decide), zup_ne2 (by decide), h27]
    have Fa : yFq (fun x j => x = 98 ∧ (j = 34 ∨ j = 37) ∨ x = 116 ∨ x = 117) M M2 := yFq_tr (yFq_up (yFq_up yFq_rfl (.inl ⟨rfl, .inl rfl⟩)) (.inl ⟨rfl, .inr rfl⟩)) (yFq_wd s2 fun x j q => .inr q)
    have F2 : yFq yPz0 m M2 := yFq_tr (yFq_wd F0 fun x j q => by unfold yPg at q; unfold yPz0; omega) (yFq_wd Fa fun x j q => by unfold yPz0; omega)
    have q0 : yRq M2 [] := ⟨k34, fun k hk => s3 k hk, fun k hk v v1 v2 => by rw [s4 _ (by omega) (by omega), yT_neg yMks_nil]⟩
    rw [zb_294_24, zpz_98 hz01, zbs, s1', zb_294_49, if_neg (c := (12288 : Int) < 12288) (by decide), zgi_98, zbs, k37]
    by_cases g : 3 < (yGa (w 2)).length
    · have hb : yBad (yGa (w 2)) b c = 1 := yT_pos (.inl g)
      rw [if_pos g] at hz
      rw [hz] at k37 ⊢
      rw [if_neg (c := (1 : Int) = 0) (by decide)]
      exact ⟨M2, rfl, F2, fun _ => k37, fun q => absurd hb q⟩
    · rw [if_neg g] at hz
      rw [hz] at k37 ⊢
      have hbad : yBad (yGa (w 2)) b c = 1 ↔ yMany (yGa (w 2)) b c := by
        constructor
        · intro q
          have : ¬ ¬ (3 < (yGa (w 2)).length ∨ yMany (yGa (w 2)) b c) := fun k => by
            have := yT_neg k
            unfold yBad at q
            omega
          exact (Classical.not_not.mp this).resolve_left g
        · exact fun q => yT_pos (.inr q)
      rw [if_pos rfl, zgi_98, zbs, k27]
      by_cases g0 : (yGa (w 2)).length = 0
      · have hnil : yGa (w 2) = [] := List.length_eq_zero_iff.mp g0
        rw [if_pos (by omega), zpi_98, zbs]
        refine ⟨_, rfl, yFq_up F2 (by unfold yPz0; omega), fun q => ?_, fun _ => ⟨by rw [zup_ne2 (by decide)]; exact k37, ?_⟩⟩
        · rw [hbad, hnil] at q
          exact absurd q id
        · rw [hnil]
          refine ⟨zup_self, fun k hk => ?_, fun k hk v v1 v2 => ?_⟩
          · rw [zup_ne (by decide), s3 k hk]
            rfl
          · rw [zup_ne (by decide), s4 _ (by omega) (by omega)]
            exact (yT_neg yMks_none).symm
      · have on2 : yRl M2 0 b c := yRl_fr on0 Fa (fun j j1 j2 q => by omega) (fun q => by omega)
        have cx2 : yCx M2 (w 2) := yCx_fr cx0 Fa (fun j => by omega) (by omega) fun j => by omega
        obtain ⟨M3, t1, t2, t3, t4, t5⟩ := zk_295 (L := L) (m := M2) (d + 2) (l := 0) (by decide) on2 cx2 (by omega) k37
        have t1' : zmD zP (d + 9) 295 [zr 98, zi 0, zi 0] (zW L M2) = _ := t1
        have F3 : yFq yPz0 m M3 := yFq_tr F2 (yFq_wd t2 fun x j q => by unfold yPz0; omega)
        have cx3 : yCx M3 (w 2) := yCx_fr cx2 t2 (fun j => by omega) (by omega) fun j => by omega
        have q3 : yRq M3 [] := yRq_fr q0 t2 (by omega) fun j => by omega
        have ePd : yGa (w 2) = (yGa (w 2)).getD 0 [] :: (yGa (w 2)).drop 1 := (yDrop_n (show 0 < (yGa (w 2)).length by omega))
        generalize ep : (yGa (w 2)).getD 0 [] = p at *
        obtain ⟨fl, efl⟩ : ∃ fl, fl = yFl b c p := ⟨_, rfl⟩
        have t4' : yRm M3 0 fl := by rw [efl]; exact t4
        rw [← efl] at t5
        have hmv : ∀ u ∈ fl, u ∈ yMv b c := fun u hu => (List.mem_filter.mp (by rw [efl] at hu; exact hu)).1
        have hle := t4'.2.1
        have hmany : yMany (yGa (w 2)) b c ↔ 40 < fl.length ∨ ∃ v ∈ fl, yMany ((yGa (w 2)).drop 1) (yBv b v) (8 - c) := by
          rw [efl]
          conv => lhs; rw [ePd]
          exact Iff.rfl
        have hrd : yRdg (yGa (w 2)) b c = yRdi fl ((yGa (w 2)).drop 1) b c fl.length := by
          rw [efl, yRdi_all, ← ePd]
        rw [if_neg (by omega), zcv_98, t1', zbs, zmG_n, zb_294_96]
        have stop : ∀ (i : Nat) (M : Nat → Int → Int), M 98 37 = 1 → zmE (zmD zP (d+9)) zc_294 (98, [some (zr 98), some (zi i)], [], zW L M) = some (none, zW L M) := fun i M q => by
          rw [zb_294_98, zgr_98_12, zbs, zai_108 (by decide) (by decide), zbs, zgi_98, zbs, q, if_neg (c := (1 : Int) = 0) (by decide)]
          split <;> rfl
        have stop0 : ∀ (M : Nat → Int → Int), M 98 37 = 1 → zmE (zmD zP (d+9)) zc_294 (98, [some (zr 98), some (zi 0)], [], zW L M) = some (none, zW L M) := fun M q => stop 0 M q
        by_cases g40 : 40 < fl.length
        · rw [if_pos g40] at t5
          rw [stop0 M3 t5]
          exact ⟨M3, rfl, F3, fun _ => t5, fun q => absurd (hbad.mpr (hmany.mpr (.inl g40))) q⟩
        · rw [if_neg g40] at t5
          suffices loop : ∀ (k i : Nat) (M : Nat → Int → Int), i + k = fl.length → yFq (yPz 1) M3 M → M 98 37 = 0 → yRq M (yRdi fl ((yGa (w 2)).drop 1) b c i) → (∀ j : Nat, j < i → ¬ yMany ((yGa (w 2)).drop 1) (yBv b (fl.getD j 0)) (8 - c)) → ∃ m', zmE (zmD zP (d+9)) zc_294 (98, [some (zr 98), some (zi i)], [], zW L M) = some (none, zW L m') ∧ yFq (yPz 1) M3 m' ∧ (yBad (yGa (w 2)) b c = 1 → m' 98 37 = 1) ∧ (yBad (yGa (w 2)) b c ≠ 1 → m' 98 37 = 0 ∧ yRq m' (yRdg (yGa (w 2)) b c)) by
            obtain ⟨m', u1, u2, u3⟩ := loop fl.length 0 M3 (by omega) yFq_rfl t5 q3 fun j hj => absurd hj (Nat.not_lt_zero j)
            exact ⟨m', u1, yFq_tr F3 (yFq_wd u2 fun x j q => by unfold yPz at q; unfold yPz0; omega), u3⟩
          intro k
          induction k with
          | zero =>
            intro i M hi f1 f2 f3 f4
            rw [show i = fl.length by omega] at f3 f4
            have rm := yRm_z t4' f1 (by decide)
            rw [zb_294_98, zgr_98_12, zbs, zai_108 (by decide) (by decide), zbs, rm.1, if_neg (by omega)]
            have nm : yBad (yGa (w 2)) b c ≠ 1 := fun q => by
              rcases hmany.mp (hbad.mp q) with q | ⟨u, hu, q⟩
              · exact g40 q
              · obtain ⟨j, j1, j2⟩ := yMem_get.mp hu
                rw [← j2] at q
                exact f4 j j1 q
            rw [hrd]
            exact ⟨M, rfl, f1, fun q => absurd q nm, fun _ => ⟨f2, f3⟩⟩
          | succ k ih =>
            intro i M hi f1 f2 f3 f4
            have hu : fl.getD i 0 ∈ fl := yMem_get.mpr ⟨i, by omega, rfl⟩
            have rm := yRm_z t4' f1 (by decide)
            have e107 := yRm_i rm (i := i) (by omega)
            rw [show (512 : Int) * 0 + (i : Nat) = i by omega] at e107
            have h1600 := yp40 (n := ((yGa (w 2)).drop 1).length) (by rw [List.length_drop]; omega)
            have hI := yRdi_len (fl := fl) (ps := (yGa (w 2)).drop 1) (b := b) (c := c) (B := 1600) i (by omega) fun j hj => Nat.le_trans (yRdg_len _ _ _ (f4 j hj)) h1600
            have es := yRdi_s (ps := (yGa (w 2)).drop 1) (b := b) (c := c) (show i < fl.length by omega)
            obtain ⟨M4, u1, u2, u3, u4⟩ := zk_296 (L := L) (m := M) d (yRl_z t3 f1 (by decide)) (hmv _ hu) (yCx_z cx3 f1) (by omega) f2 f3 (by omega)
            have F4 := yFq_tr f1 u2
            rw [zb_294_98, zgr_98_12, zbs, zai_108 (by decide) (by decide), zbs, rm.1, if_pos (by omega), zgi_98, zbs, f2, if_pos rfl, zgr_98_11, zbs, zai_107 (by omega) (by omega), zbs, e107, zcv_98, u1, zbs, zmG_n, zb_294_125, w32_of (by omega) (by omega)]
            by_cases gm : yMany ((yGa (w 2)).drop 1) (yBv b (fl.getD i 0)) (8 - c)
            · have hm : yBad (yGa (w 2)) b c = 1 := hbad.mpr (hmany.mpr (.inr ⟨_, hu, gm⟩))
              have q37 := u3 gm
              have := stop (i + 1) M4 q37
              rw [Int.natCast_succ] at this
              rw [this]
              exact ⟨M4, rfl, F4, fun _ => q37, fun q => absurd hm q⟩
            · obtain ⟨q1, q2⟩ := u4 gm
              refine ih (i + 1) M4 (by omega) F4 q1 ?_ fun j hj => ?_
              · rw [es]
                exact q2
              · by_cases g2 : j = i
                · rw [g2]
                  exact gm
                · exact f4 j (by omega)
  by_cases g : 3 < (yGa (w 2)).length
  · rw [if_pos (by omega)]
    exact go 1 (if_pos g).symm
  · rw [if_neg (by omega)]
    exact go 0 (if_neg g).symm
theorem yr_293 (h : yRs m w b c n e W F Z) : ∃ m', zmD zP (d + 11) 293 [zr 98] (zW L m) = some (some (zi (yRdV (yGa (w 2)) b c)), zW L m') ∧ yFr 98 117 m m' ∧ yRs m' w b c n e W F Z := by
  obtain ⟨M, r1, r2, r3, r4⟩ := zk_294 (L := L) d h
  refine ⟨M, ?_, yPz0_fr r2, yRs_fr h r2 yPz0_hold⟩
  unfold yRdV
  rw [zen_293, zb_293_0, zcv_98, r1, zbs, zmG_n, zb_293_4, zgi_98, zbs]
  by_cases g : yBad (yGa (w 2)) b c = 1
  · rw [r3 g, if_neg (c := (1 : Int) = 0) (by decide), if_pos g]
  · obtain ⟨q1, q2⟩ := r4 g
    rw [q1, if_pos rfl, if_neg g, zgi_98, zbs, q2.1]
theorem yr_300 (h : yRs m w b c n e W F Z) (k a : Int) : ∃ m', zmD zP (d + 11) 300 [zr 98, zi k, zi a] (zW L m) = some (some (zi (yRdW (yGa (w 2)) b c k a)), zW L m') ∧ yFr 98 117 m m' ∧ yRs m' w b c n e W F Z := by
  unfold yRdW
  rw [zen_300, zb_300_0, zk_201, zbs, zmG_v, zb_300_9]
  by_cases g : 0 ≤ k ∧ k ≤ 2
  · rw [if_neg (fun q => zB_z.mp q g), zk_279, zbs, zmG_v, zb_300_16]
    by_cases g2 : 0 ≤ a ∧ a ≤ 1
    · obtain ⟨M, r1, r2, r3, r4⟩ := zk_294 (L := L) d h
      refine ⟨M, ?_, yPz0_fr r2, yRs_fr h r2 yPz0_hold⟩
      rw [if_neg (fun q => zB_z.mp q g2), if_pos (c := (0 ≤ k ∧ k ≤ 2) ∧ (0 ≤ a ∧ a ≤ 1)) ⟨g, g2⟩, zcv_98, r1, zbs, zmG_n, zb_300_26, zgi_98, zbs]
      by_cases gb : yBad (yGa (w 2)) b c = 1
      · rw [r3 gb, if_neg (c := (1 : Int) = 0) (by decide), if_pos gb]
      · obtain ⟨q1, q2, q3, q4⟩ := r4 gb
        rw [q1, if_pos rfl, if_neg gb]
        suffices go : ∀ j i : Nat, i + j = 4096 → zmE (zmD zP (d+10)) zc_300 (41, [some (zr 98), some (zi k), some (zi a), some (zi (yNb (yMks 0 (yRdg (yGa (w 2)) b c) k.toNat) i)), some (zi i)], [], zW L M) = some (some (zi (if a = 0 then yFs (yRdg (yGa (w 2)) b c) k.toNat else yNb (yMks 0 (yRdg (yGa (w 2)) b c) k.toNat) 4096)), zW L M) from go 4096 0 (by omega)
        intro j
        induction j with
        | zero =>
          intro i hi
          rw [show i = 4096 by omega, zb_300_41, if_neg (by omega)]
          by_cases g3 : a = 0
          · have := q3 k.toNat (by omega)
            rw [show ((k.toNat : Nat) : Int) = k by omega] at this
            rw [if_pos g3, if_pos g3, zgr_98_35, zbs, zai_116 (by omega) (by omega), zbs, this]
          · rw [if_neg g3, if_neg g3]
        | succ j ih =>
          intro i hi
          have hn := yNb_in (p := yMks 0 (yRdg (yGa (w 2)) b c) k.toNat) i
          have ev := q4 k.toNat (by omega) i (by omega) (by omega)
          rw [show ((k.toNat : Nat) : Int) = k by omega] at ev
          have q := ih (i + 1) (by omega)
          rw [yNb] at q
          rw [zb_300_41, if_pos (by omega), zgr_98_36, zbs, w32_of (z := 4096 * k) (by omega) (by omega), w32_of (z := 4096 * k + i) (by omega) (by omega), zai_117 (by omega) (by omega), zbs, ev]
          rcases yT_or (p := yMks 0 (yRdg (yGa (w 2)) b c) k.toNat i) with ht | ht
          · rw [ht] at q ⊢
            rw [if_pos rfl, zb_300_71, w32_of (z := yNb (yMks 0 (yRdg (yGa (w 2)) b c) k.toNat) i + 0) (by omega) (by omega), w32_of (z := (i : Int) + 1) (by omega) (by omega)]
            exact q
          · rw [ht] at q ⊢
            rw [if_neg (c := (1 : Int) = 0) (by decide), zb_300_71, w32_of (z := yNb (yMks 0 (yRdg (yGa (w 2)) b c) k.toNat) i + 1) (by omega) (by omega), w32_of (z := (i : Int) + 1) (by omega) (by omega)]
            exact q
    · rw [if_pos (zB_z.mpr g2), if_neg (c := (0 ≤ k ∧ k ≤ 2) ∧ (0 ≤ a ∧ a ≤ 1)) (fun q => g2 q.2)]
      exact ⟨m, rfl, yFr_rfl, h⟩
  · rw [if_pos (zB_z.mpr g), if_neg (c := (0 ≤ k ∧ k ≤ 2) ∧ (0 ≤ a ∧ a ≤ 1)) (fun q => g q.1)]
    exact ⟨m, rfl, yFr_rfl, h⟩
end ZR
