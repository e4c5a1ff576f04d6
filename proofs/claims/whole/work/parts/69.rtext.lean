/-! the reference's acts on texts, home, square, side -/
section ZR
variable {L : Nat} {m : Nat → Int → Int} (d : Nat) {w : Int → List Int} {b : Int → Int} {c n e : Int} {W F : Int → Int} {Z : Int → List Int}
theorem yPb_98 {m m' : Nat → Int → Int} (h : yFq yPb m m') : (∀ x, (x = 103 ∨ x = 104 ∨ x = 99 ∨ x = 100 ∨ x = 101 ∨ x = 111) → m' x = m x) ∧ m' 98 4 = m 98 4 ∧ yFr 98 117 m m' := by
  refine ⟨fun x hx => ?_, h 98 4 ?_, yFr_of h fun x j q => ?_⟩
  · funext j
    refine h x j ?_
    unfold yPb
    omega
  · unfold yPb
    omega
  · unfold yPb at q
    omega
/-- the board laid out anew from text 0, whatever is there now -/
theorem yr_194 {m0 : Nat → Int → Int} (h : yRs m0 w b c n e W F Z) (u : Int → List Int) (hq : ∀ x, (x = 99 ∨ x = 100 ∨ x = 101 ∨ x = 111) → m x = m0 x) (hq4 : m 98 4 = m0 98 4) (hu : yRt m 0 (u 0) ∧ yRt m 1 (u 1) ∧ yRt m 2 (u 2)) (hp : yPu (yHome (u 0)).2.1 (yHome (u 0)).2.2) : ∃ (m' : Nat → Int → Int) (f : Int), zmD zP (d + 5) 194 [zr 98] (zW L m) = some (some (zi f), zW L m') ∧ yFr 98 117 m m' ∧ m' 104 = m 104 ∧ yRs m' u (yHome (u 0)).2.1 (yHome (u 0)).2.2 0 e W F Z := by
  obtain ⟨M, r1, r2, r3, r4, r5, r6⟩ := zk_194 (L := L) (m := m) d hu.1
  obtain ⟨k1, k2, k3⟩ := yPb_98 r2
  refine ⟨M, _, r1, k3, k1 104 (by omega), ?_⟩
  exact yRs_mk h (fun x hx => by rw [k1 x (by omega), hq x hx]) ⟨yRt_c hu.1 (k1 103 (by omega)) (k1 104 (by omega)), yRt_c hu.2.1 (k1 103 (by omega)) (k1 104 (by omega)), yRt_c hu.2.2 (k1 103 (by omega)) (k1 104 (by omega))⟩ ⟨hp, r4, r5⟩ ⟨r6, by rw [k2, hq4]; exact h.2.2.1.2⟩
theorem yr_250 (h : yRs m w b c n e W F Z) (hp : yPu (yHome (w 0)).2.1 (yHome (w 0)).2.2) : ∃ m', zmD zP (d + 6) 250 [zr 98] (zW L m) = some (some (zi n), zW L m') ∧ yFr 98 117 m m' ∧ yRs m' w (yHome (w 0)).2.1 (yHome (w 0)).2.2 0 e W F Z := by
  obtain ⟨M, f, r1, r2, -, r3⟩ := yr_194 (L := L) (m := m) d h w (fun _ _ => rfl) rfl h.1 hp
  rw [zen_250, zb_250_0, zgi_98, zbs, h.2.2.1.1, zcv_98, r1, zbs, zmG_v, zb_250_9]
  exact ⟨M, rfl, r2, r3⟩
theorem yr_225 (h : yRs m w b c n e W F Z) (s : Int) : ∃ m', zmD zP (d + 3) 225 [zr 98, zi s] (zW L m) = some (some (zi (if 0 ≤ s ∧ s < 64 then zbyte (b s) else -2)), zW L m') ∧ yFr 98 117 m m' ∧ yRs m' w b c n e W F Z := by
  refine ⟨m, ?_, yFr_rfl, h⟩
  rw [zen_225, zb_225_0, zk_226, zbs, zmG_v, zb_225_4]
  by_cases g : 0 ≤ s ∧ s < 64
  · have hb := h.2.1.2.1 s g.1 g.2
    have hB := h.2.1.1.1 s g.1 g.2
    have e1 : m 105 s = b s := by
      rw [← hb]
      unfold zbd
      rw [show (64 : Int) * 0 + s = s by omega]
    rw [if_neg (fun q => zB_z.mp q ⟨g.1, by omega⟩), if_pos g, zgr_98_8, zbs, zai_105 g.1 (by omega), zbs, e1, zk_227 _ _ hB.1 hB.2, zbs, zmG_v, zb_225_16]
  · rw [if_pos (zB_z.mpr (by omega)), if_neg g]
theorem yr_229 (h : yRs m w b c n e W F Z) : ∃ m', zmD zP (d + 1) 229 [zr 98] (zW L m) = some (some (zi (if c = 0 then 0 else 1)), zW L m') ∧ yFr 98 117 m m' ∧ yRs m' w b c n e W F Z := by
  refine ⟨m, ?_, yFr_rfl, h⟩
  rw [zen_229, zb_229_0, zgr_98_9, zbs, zai_106 (by decide) (by decide), zbs, h.2.1.2.2]
  split <;> rfl
theorem yCap_st {t : Int} (ht : 0 ≤ t ∧ t ≤ 2) : zst t + yCap t ≤ 150 ∧ 0 ≤ zst t ∧ (t = 0 → zst t + yCap t = 80 ∧ zst t = 0) ∧ (t = 1 → zst t + yCap t = 90 ∧ zst t = 80) ∧ (t = 2 → zst t + yCap t = 150 ∧ zst t = 90) := by
  have e : t = 0 ∨ t = 1 ∨ t = 2 := by omega
  rcases e with e | e | e <;> subst e <;> decide
theorem yRt_other {m m' : Nat → Int → Int} {t s : Int} {u : List Int} (hs : 0 ≤ s ∧ s ≤ 2) (hne : t ≠ s) (h : yRt m t u) (h1 : m' 104 t = m 104 t) (h2 : ∀ j, ¬ (zst s ≤ j ∧ j < zst s + yCap s) → m' 103 j = m 103 j) : yRt m' t u := by
  obtain ⟨h0, h3, h4, h5⟩ := h
  refine ⟨h0, by rw [h1, h3], h4, fun i hi => ?_⟩
  rw [h2]
  · exact h5 i hi
  · have a := yCap_st h0
    have b := yCap_st hs
    have e : t = 0 ∨ t = 1 ∨ t = 2 := by omega
    have e2 : s = 0 ∨ s = 1 ∨ s = 2 := by omega
    rcases e with e | e | e <;> rcases e2 with e2 | e2 | e2 <;> first | exact absurd (e.trans e2.symm) hne | skip
    · have := a.2.2.1 e; have := b.2.2.2.1 e2; omega
    · have := a.2.2.1 e; have := b.2.2.2.2 e2; omega
    · have := a.2.2.2.1 e; have := b.2.2.1 e2; omega
    · have := a.2.2.2.1 e; have := b.2.2.2.2 e2; omega
    · have := a.2.2.2.2 e; have := b.2.2.1 e2; omega
    · have := a.2.2.2.2 e; have := b.2.2.2.1 e2; omega
theorem yRs_text (h : yRs m w b c n e W F Z) {t : Int} (ht : 0 ≤ t ∧ t ≤ 2) : yRt m t (w t) := by
  have e : t = 0 ∨ t = 1 ∨ t = 2 := by omega
  rcases e with e | e | e <;> subst e
  · exact h.1.1
  · exact h.1.2.1
  · exact h.1.2.2
/-- the texts behind a change of text t -/
theorem yRt_up (h : yRs m w b c n e W F Z) {m1 : Nat → Int → Int} {t : Int} {u : List Int} (ht : 0 ≤ t ∧ t ≤ 2) (hu : yRt m1 t u) (h1 : ∀ j, j ≠ t → m1 104 j = m 104 j) (h2 : ∀ j, ¬ (zst t ≤ j ∧ j < zst t + yCap t) → m1 103 j = m 103 j) : yRt m1 0 (yUp w t u 0) ∧ yRt m1 1 (yUp w t u 1) ∧ yRt m1 2 (yUp w t u 2) := by
  have k : ∀ s : Int, 0 ≤ s ∧ s ≤ 2 → yRt m1 s (yUp w t u s) := fun s hs => by
    unfold yUp
    by_cases g : s = t
    · rw [if_pos g, g]
      exact hu
    · rw [if_neg g]
      exact yRt_other ht g (yRs_text h hs) (h1 s g) h2
  exact ⟨k 0 (by decide), k 1 (by decide), k 2 (by decide)⟩
theorem yr_212 (h : yRs m w b c n e W F Z) (t x : Int) (hp : t = 0 → yPu (yHome (w 0 ++ [x])).2.1 (yHome (w 0 ++ [x])).2.2 ∨ ¬ (w 0).length < 80 ∨ ¬ (0 ≤ x ∧ x ≤ 255)) : ∃ m', zmD zP (d + 6) 212 [zr 98, zi t, zi x] (zW L m) = some (some (zi (if (0 ≤ t ∧ t ≤ 2) ∧ 0 ≤ x ∧ x ≤ 255 then (if (w t).length < yCap t then (w t).length + 1 else -4) else -2)), zW L m') ∧ yFr 98 117 m m' ∧ (¬ (((0 ≤ t ∧ t ≤ 2) ∧ 0 ≤ x ∧ x ≤ 255) ∧ (w t).length < yCap t) → yRs m' w b c n e W F Z) ∧ (((0 ≤ t ∧ t ≤ 2) ∧ 0 ≤ x ∧ x ≤ 255) ∧ (w t).length < yCap t → yCt m' w b c n e W F Z t (w t ++ [x]) yRs) := by
  rw [zen_212, zb_212_0, zk_213, zbs, zmG_v, zb_212_4]
  by_cases g : 0 ≤ t ∧ t ≤ 2
  · rw [if_neg (fun q => zB_z.mp q g), zk_201, zbs, zmG_v, zb_212_16]
    by_cases g2 : 0 ≤ x ∧ x ≤ 255
    · have hT := yRs_text h g
      have hl := hT.2.2.1
      obtain ⟨s1, s2, -⟩ := yCap_st g
      have e49 : (if t = 0 then zmE (zmD zP (d+5)) zc_212 (49, [some (zr 98), some (zi t), some (zi x)], [zi 80, zi ((w t).length)], zW L m) else if t = 1 then zmE (zmD zP (d+5)) zc_212 (49, [some (zr 98), some (zi t), some (zi x)], [zi 10, zi ((w t).length)], zW L m) else zmE (zmD zP (d+5)) zc_212 (49, [some (zr 98), some (zi t), some (zi x)], [zi 60, zi ((w t).length)], zW L m)) = zmE (zmD zP (d+5)) zc_212 (49, [some (zr 98), some (zi t), some (zi x)], [zi (yCap t), zi ((w t).length)], zW L m) := by
        unfold yCap
        split
        · rfl
        · split <;> rfl
      rw [if_neg (fun q => zB_z.mp q g2), if_pos (show (0 ≤ t ∧ t ≤ 2) ∧ 0 ≤ x ∧ x ≤ 255 from ⟨g, g2⟩), zgr_98_6, zbs, zai_104 g.1 (by omega), zbs, hT.2.1, e49, zb_212_49]
      by_cases k : (w t).length < yCap t
      · have tt : t = 0 ∨ t ≠ 0 := by omega
        rw [if_neg (by omega), if_pos k, zgr_98_5, zbs, zk_198, zbs, zmG_v, zb_212_63, zgr_98_6, zbs, zai_104 g.1 (by omega), zbs, hT.2.1]
        have hz : (if t = 0 then (0 : Int) else if t = 1 then 80 else 90) = zst t := rfl
        rw [hz, w32_of (by omega) (by omega), zsi_103 (by omega) (by omega), zbs, zgr_98_6, zbs, zai_104 g.1 (by omega), zbs, zup_ne (by decide), hT.2.1, w32_of (by omega) (by omega), zsi_104 g.1 (by omega), zbs]
        generalize hM : zup (zup m 103 (zst t + (w t).length) x) 104 t (((w t).length : Int) + 1) = M
        have hu : yRt M t (w t ++ [x]) := by
          rw [← hM]
          refine ⟨g, by rw [zup_self, List.length_append]; rfl, by rw [List.length_append]; exact k, fun i hi => ?_⟩
          rw [List.length_append] at hi
          have hi : i < (w t).length + 1 := hi
          rw [zup_ne (by decide)]
          by_cases gi : i = (w t).length
          · rw [gi, zup_self, yget_e rfl]
            exact ⟨rfl, g2.1, by omega⟩
          · rw [zup_ne2 (by omega), yget_l (by omega)]
            exact hT.2.2.2 i (by omega)
        have kx : ∀ y, y ≠ 103 → y ≠ 104 → M y = m y := fun y y1 y2 => by
          rw [← hM]
          funext j
          rw [zup_ne y2, zup_ne y1]
        have hup := yRt_up h g hu (fun j hj => by rw [← hM, zup_ne2 hj, zup_ne (by decide)]) (fun j hj => by
          rw [← hM, zup_ne (by decide), zup_ne2 (by omega)])
        have hF : yFr 98 117 m M := fun y hy => kx y (by omega) (by omega)
        have at91 : ∀ M' : Nat → Int → Int, M' 104 t = ((w t).length : Int) + 1 → zmE (zmD zP (d+5)) zc_212 (91, [some (zr 98), some (zi t), some (zi x)], [], zW L M') = some (some (zi (((w t).length : Int) + 1)), zW L M') := fun M' hM' => by
          rw [zb_212_91, zgr_98_6, zbs, zai_104 g.1 (by omega), zbs, hM']
        have m1 : M 104 t = ((w t).length : Int) + 1 := by rw [← hM, zup_self]
        rcases tt with tt | tt
        · subst tt
          have hp0 : yPu (yHome (w 0 ++ [x])).2.1 (yHome (w 0 ++ [x])).2.2 := by
            rcases hp rfl with q | q | q
            · exact q
            · exact absurd k q
            · exact absurd g2 q
          obtain ⟨M', f, r1, r2, r3, r4⟩ := yr_194 (L := L) (m := M) d h (yUp w 0 (w 0 ++ [x])) (fun y hy => kx y (by omega) (by omega)) (by rw [kx 98 (by decide) (by decide)]) hup hp0
          rw [if_pos rfl, zcv_98, r1, zbs, zmG_v, zb_212_90, at91 M' (by rw [r3, m1])]
          exact ⟨M', rfl, yFr_tr hF r2, fun q => absurd ⟨⟨g, g2⟩, k⟩ q, fun _ => ⟨fun _ => r4, fun q => absurd rfl q⟩⟩
        · rw [if_neg tt, at91 M m1]
          refine ⟨M, rfl, hF, fun q => absurd ⟨⟨g, g2⟩, k⟩ q, fun _ => ⟨fun q => absurd q tt, fun _ => ?_⟩⟩
          exact yRs_mk h (fun y hy => kx y (by omega) (by omega)) hup ⟨h.2.1.1, by
            unfold zbd
            rw [kx 105 (by decide) (by decide)]
            exact h.2.1.2.1, by rw [kx 106 (by decide) (by decide)]; exact h.2.1.2.2⟩ (by rw [kx 98 (by decide) (by decide)]; exact h.2.2.1)
      · rw [if_pos (by omega), if_neg k]
        exact ⟨m, rfl, yFr_rfl, fun _ => h, fun q => absurd q.2 k⟩
    · rw [if_pos (zB_z.mpr g2), if_neg (fun q => g2 q.2)]
      exact ⟨m, rfl, yFr_rfl, fun _ => h, fun q => absurd q.1.2 g2⟩
  · rw [if_pos (zB_z.mpr g), if_neg (fun q => g q.1)]
    exact ⟨m, rfl, yFr_rfl, fun _ => h, fun q => absurd q.1.1 g⟩
theorem yr_214 (h : yRs m w b c n e W F Z) (t : Int) (hp : t = 0 → yPu (yHome []).2.1 (yHome []).2.2) : ∃ m', zmD zP (d + 6) 214 [zr 98, zi t] (zW L m) = some (some (zi (if 0 ≤ t ∧ t ≤ 2 then (w t).length else -2)), zW L m') ∧ yFr 98 117 m m' ∧ (¬ (0 ≤ t ∧ t ≤ 2) → yRs m' w b c n e W F Z) ∧ (0 ≤ t ∧ t ≤ 2 → yCt m' w b c n e W F Z t [] yRs) := by
  rw [zen_214, zb_214_0, zk_213, zbs, zmG_v, zb_214_4]
  by_cases g : 0 ≤ t ∧ t ≤ 2
  · have hT := yRs_text h g
    have tt : t = 0 ∨ t ≠ 0 := by omega
    rw [if_neg (fun q => zB_z.mp q g), if_pos g, zgr_98_6, zbs, zai_104 g.1 (by omega), zbs, zbs, hT.2.1, zsi_104 g.1 (by omega), zbs]
    generalize hM : zup m 104 t 0 = M
    have hu : yRt M t [] := ⟨g, by rw [← hM, zup_self]; rfl, Nat.zero_le _, fun i hi => absurd hi (Nat.not_lt_zero i)⟩
    have kx : ∀ y, y ≠ 104 → M y = m y := fun y y2 => by
      rw [← hM]
      funext j
      rw [zup_ne y2]
    have hup := yRt_up h g hu (fun j hj => by rw [← hM, zup_ne2 hj]) (fun j hj => by rw [kx 103 (by decide)])
    have hF : yFr 98 117 m M := fun y hy => kx y (by omega)
    rcases tt with tt | tt
    · subst tt
      obtain ⟨M', f, r1, r2, r3, r4⟩ := yr_194 (L := L) (m := M) d h (yUp w 0 []) (fun y hy => kx y (by omega)) (by rw [kx 98 (by decide)]) hup (hp rfl)
      rw [if_pos rfl, zcv_98, r1, zbs, zmG_v, zb_214_32]
      exact ⟨M', rfl, yFr_tr hF r2, fun q => absurd g q, fun _ => ⟨fun _ => r4, fun q => absurd rfl q⟩⟩
    · rw [if_neg tt]
      refine ⟨M, rfl, hF, fun q => absurd g q, fun _ => ⟨fun q => absurd q tt, fun _ => ?_⟩⟩
      exact yRs_mk h (fun y hy => kx y (by omega)) hup ⟨h.2.1.1, by
        unfold zbd
        rw [kx 105 (by decide)]
        exact h.2.1.2.1, by rw [kx 106 (by decide)]; exact h.2.1.2.2⟩ (by rw [kx 98 (by decide)]; exact h.2.2.1)
  · rw [if_pos (zB_z.mpr g), if_neg g]
    exact ⟨m, rfl, yFr_rfl, fun _ => h, fun q => absurd q g⟩
end ZR
