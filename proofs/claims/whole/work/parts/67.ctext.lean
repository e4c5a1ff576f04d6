/-! the class's acts on texts; home; read -/
def yPy (x : Nat) (j : Int) : Prop := 8 ≤ x ∧ x ≤ 10 ∨ x = 0 ∧ (j = 13 ∨ j = 14 ∨ j = 16)
def yUp (w : Int → List Int) (t : Int) (u : List Int) : Int → List Int := fun i => if i = t then u else w i
section ZR
variable {L : Nat} {m : Nat → Int → Int} (D : Nat) {w : Int → List Int} {b : Int → Int} {c n e : Int} {W F : Int → Int} {Z : Int → List Int}
theorem yk_18 (hX : yTxt m) (hT : yTab m) {u : List Int} (hw : yTw m 2 80 u) : ∃ m', zmD zP (D + 8) 18 [zr 0] (zW L m) = some (none, zW L m') ∧ yFq yPy m m' ∧ (yGd2 m' 8 9 ∧ yAg (yB (m' 9)) (yHome u).2.1 ∧ 8 * m' 8 1 = (yHome u).2.2) ∧ m' 0 13 = (yHome u).1 ∧ m' 0 14 = 0 ∧ m' 0 16 = 0 := by
  obtain ⟨M, r1, r2, r3, r4, r5⟩ := zk_19 (L := L) D hX hT hw
  rw [zen_18, zb_18_0, zgr_0_2, zbs, zgr_0_0, zbs, zar_1_0, zbs, zgr_0_1, zbs, zcv_10, r1, zbs, zmG_v, zb_18_18, zpi_0, zbs, zpi_0, zbs, zpz_0 (.inl rfl), zbs]
  have kx : ∀ x, x ≠ 0 → zup (zup (zup M 0 13 (yHome u).1) 0 14 0) 0 16 0 x = M x := fun x x1 => by
    funext j
    rw [zup_ne x1, zup_ne x1, zup_ne x1]
  refine ⟨_, rfl, yFq_up (yFq_up (yFq_up (yFq_fr r2 fun x j x1 x2 => .inl ⟨x1, x2⟩) (.inr ⟨rfl, .inl rfl⟩)) (.inr ⟨rfl, .inr (.inl rfl)⟩)) (.inr ⟨rfl, .inr (.inr rfl)⟩), ⟨yGd2_c r3 (kx 8 (by decide)) (kx 9 (by decide)) (fun x hx => kx x (by omega)), by rw [kx 9 (by decide)]; exact r4, by rw [kx 8 (by decide)]; exact r5⟩, ?_, ?_, zup_self⟩
  · rw [zup_ne2 (by decide), zup_ne2 (by decide), zup_self]
  · rw [zup_ne2 (by decide), zup_self]
theorem yk_115 (h : yCs m w b c n e W F Z) : ∃ m', zmD zP (D + 9) 115 [zr 0] (zW L m) = some (some (zi n), zW L m') ∧ yFr 0 97 m m' ∧ yCs m' w (yHome (w 0)).2.1 (yHome (w 0)).2.2 0 e W F Z := by
  obtain ⟨M, r1, r2, r3, r4, r5, r6⟩ := yk_18 (L := L) D h.2.2.2.2.1.1 h.2.1.1.1 h.1.1
  rw [zen_115, zb_115_0, zgi_0, zbs, h.2.2.1.2.1, zcv_0, r1, zbs, zmG_n, zb_115_9]
  have kx : ∀ x, x ≠ 0 → ¬ (8 ≤ x ∧ x ≤ 10) → M x = m x := fun x x1 x2 => by
    funext j
    exact r2 x j (by unfold yPy; omega)
  have a0 := h.1
  refine ⟨M, rfl, yFr_of r2 fun x j q => by unfold yPy at q; omega, ?_⟩
  exact yCs_mk h (fun x hx => kx x (by omega) (by omega)) ⟨yTw_c a0.1 (kx 2 (by decide) (by decide)) (kx 3 (by decide) (by decide)), yTw_c a0.2.1 (kx 4 (by decide) (by decide)) (kx 5 (by decide) (by decide)), yTw_c a0.2.2 (kx 6 (by decide) (by decide)) (kx 7 (by decide) (by decide))⟩ r3 ⟨r4, r5, (r2 0 15 (by unfold yPy; omega)).trans h.2.2.1.2.2⟩ (.inl r6)
theorem zk_15 (t : Int) : zmD zP (D + 1) 15 [zr 0, zi t] (zW L m) = some (some (zi (if 0 ≤ t ∧ t ≤ 2 then 0 else 1)), zW L m) := by
  rw [zen_15, zb_15_0, zb_15_13, zgr_0_0, zbs, zlen_1, zbs]
  by_cases g : t < 0
  · rw [if_pos g, if_neg (by omega)]
  · rw [if_neg g]
    by_cases g2 : t < 3
    · rw [if_pos g2, if_pos (by omega)]
    · rw [if_neg g2, if_neg (by omega)]
/-- text 0 has another content: laid out anew -/
theorem yk_17a (h : yCs m w b c n e W F Z) {m1 : Nat → Int → Int} {u : List Int} (hF : yFr 2 3 m m1) (hu : yTw m1 2 80 u) : ∃ m', zmD zP (D + 9) 17 [zr 0, zi 0] (zW L m1) = some (none, zW L m') ∧ yFr 0 97 m m' ∧ yCs m' (yUp w 0 u) (yHome u).2.1 (yHome u).2.2 0 e W F Z ∧ yTw m' 2 80 u := by
  obtain ⟨M, r1, r2, r3, r4, r5, r6⟩ := yk_18 (L := L) (m := m1) D (yTxt_fr h.2.2.2.2.1.1 hF (by decide)) (yTab_fr h.2.1.1.1 hF (by decide)) hu
  rw [zen_17, zb_17_0, if_pos rfl, zcv_0, r1, zbs, zmG_n, zb_17_8]
  have k1 : ∀ x, x ≠ 0 → ¬ (8 ≤ x ∧ x ≤ 10) → M x = m1 x := fun x x1 x2 => by
    funext j
    exact r2 x j (by unfold yPy; omega)
  have kx : ∀ x, x ≠ 0 → ¬ (8 ≤ x ∧ x ≤ 10) → x ≠ 2 → x ≠ 3 → M x = m x := fun x x1 x2 x3 x4 => by
    rw [k1 x x1 x2, hF x (by omega)]
  have a0 := h.1
  have hu' := yTw_c hu (k1 2 (by decide) (by decide)) (k1 3 (by decide) (by decide))
  refine ⟨M, rfl, yFr_tr (yFr_wd hF (by decide) (by decide)) (yFr_of r2 fun x j q => by unfold yPy at q; omega), ?_, hu'⟩
  refine yCs_mk h (fun x hx => kx x (by omega) (by omega) (by omega) (by omega)) ⟨hu', ?_, ?_⟩ r3 ⟨r4, r5, ?_⟩ (.inl r6)
  · exact yTw_c a0.2.1 (kx 4 (by decide) (by decide) (by decide) (by decide)) (kx 5 (by decide) (by decide) (by decide) (by decide))
  · exact yTw_c a0.2.2 (kx 6 (by decide) (by decide) (by decide) (by decide)) (kx 7 (by decide) (by decide) (by decide) (by decide))
  · rw [r2 0 15 (by unfold yPy; omega), hF 0 (by decide)]
    exact h.2.2.1.2.2
/-- text 1 or 2 has another content -/
theorem yCs_t {m1 : Nat → Int → Int} (h : yCs m w b c n e W F Z) {u : List Int} {t : Int} (ht : t = 1 ∨ t = 2) (hF : yFr (2 * t.toNat + 2) (2 * t.toNat + 3) m m1) (hu : yTw m1 (2 * t.toNat + 2) (if t = 1 then 10 else 60) u) : yCs m1 (yUp w t u) b c n e W F Z := by
  have a0 := h.1
  rcases ht with e1 | e1 <;> subst e1
  · have kx : ∀ x, x ≠ 4 → x ≠ 5 → m1 x = m x := fun x x1 x2 => hF x (by show x < 4 ∨ 5 < x; omega)
    have hli := h.2.2.2.1
    refine yCs_mk h (fun x hx => kx x (by omega) (by omega)) ⟨yTw_c a0.1 (kx 2 (by decide) (by decide)) (kx 3 (by decide) (by decide)), hu, yTw_c a0.2.2 (kx 6 (by decide) (by decide)) (kx 7 (by decide) (by decide))⟩ ⟨yGd2_c h.2.1.1 (kx 8 (by decide) (by decide)) (kx 9 (by decide) (by decide)) (fun x hx => kx x (by omega) (by omega)), by rw [kx 9 (by decide) (by decide)]; exact h.2.1.2.1, by rw [kx 8 (by decide) (by decide)]; exact h.2.1.2.2⟩ (by rw [kx 0 (by decide) (by decide)]; exact h.2.2.1) ?_
    rw [kx 0 (by decide) (by decide)]
    exact hli.imp id fun q => ⟨q.1, yNm2_fr q.2 hF (.inr (by decide))⟩
  · have kx : ∀ x, x ≠ 6 → x ≠ 7 → m1 x = m x := fun x x1 x2 => hF x (by show x < 6 ∨ 7 < x; omega)
    have hli := h.2.2.2.1
    refine yCs_mk h (fun x hx => kx x (by omega) (by omega)) ⟨yTw_c a0.1 (kx 2 (by decide) (by decide)) (kx 3 (by decide) (by decide)), yTw_c a0.2.1 (kx 4 (by decide) (by decide)) (kx 5 (by decide) (by decide)), hu⟩ ⟨yGd2_c h.2.1.1 (kx 8 (by decide) (by decide)) (kx 9 (by decide) (by decide)) (fun x hx => kx x (by omega) (by omega)), by rw [kx 9 (by decide) (by decide)]; exact h.2.1.2.1, by rw [kx 8 (by decide) (by decide)]; exact h.2.1.2.2⟩ (by rw [kx 0 (by decide) (by decide)]; exact h.2.2.1) ?_
    rw [kx 0 (by decide) (by decide)]
    exact hli.imp id fun q => ⟨q.1, yNm2_fr q.2 hF (.inr (by decide))⟩
/-- the state behind a change of a text -/
def yCt (m : Nat → Int → Int) (w : Int → List Int) (b : Int → Int) (c n e : Int) (W F : Int → Int) (Z : Int → List Int) (t : Int) (u : List Int) (P : (Nat → Int → Int) → (Int → List Int) → (Int → Int) → Int → Int → Int → (Int → Int) → (Int → Int) → (Int → List Int) → Prop) : Prop := (t = 0 → P m (yUp w 0 u) (yHome u).2.1 (yHome u).2.2 0 e W F Z) ∧ (t ≠ 0 → P m (yUp w t u) b c n e W F Z)
theorem yk_14 (h : yCs m w b c n e W F Z) (t x : Int) : ∃ m', zmD zP (D + 10) 14 [zr 0, zi t, zi x] (zW L m) = some (some (zi (if (0 ≤ t ∧ t ≤ 2) ∧ 0 ≤ x ∧ x ≤ 255 then (if (w t).length < yCap t then (w t).length + 1 else -4) else -2)), zW L m') ∧ yFr 0 97 m m' ∧ (¬ (((0 ≤ t ∧ t ≤ 2) ∧ 0 ≤ x ∧ x ≤ 255) ∧ (w t).length < yCap t) → yCs m' w b c n e W F Z) ∧ (((0 ≤ t ∧ t ≤ 2) ∧ 0 ≤ x ∧ x ≤ 255) ∧ (w t).length < yCap t → yCt m' w b c n e W F Z t (w t ++ [x]) yCs) := by
  rw [zen_14, zb_14_0, zcv_0, zk_15, zbs, zmG_v, zb_14_5]
  by_cases g : 0 ≤ t ∧ t ≤ 2
  · rw [if_pos g, if_pos rfl]
    by_cases g2 : 0 ≤ x ∧ x ≤ 255
    · have g3 : (0 ≤ t ∧ t ≤ 2) ∧ 0 ≤ x ∧ x ≤ 255 := ⟨g, g2⟩
      rw [if_neg (by omega), if_neg (by omega), if_pos g3, zgr_0_0, zbs]
      have tt : t = 0 ∨ t = 1 ∨ t = 2 := by omega
      rcases tt with tt | tt | tt <;> subst tt
      · obtain ⟨M, r1, r2, r3⟩ := zk_16 (L := L) (D + 8) yTo_2 h.1.1 x ⟨g2.1, by omega⟩
        have hcap : yCap 0 = 80 := rfl
        rw [zar_1_0, zbs, yoc yTo_2, r1, zbs, zmG_v, zb_14_32, hcap]
        by_cases k : (w 0).length < 80
        · rw [if_pos k] at r3
          obtain ⟨M2, s1, s2, s3, s4⟩ := yk_17a (L := L) D h r2 r3
          rw [if_pos k, if_pos k, if_neg (by decide), zcv_0, s1, zbs, zmG_n, zb_14_43, zgr_0_0, zbs, zar_1_0, zbs, yoc yTo_2, zk_22 (D + 8) yTo_2 s4, zbs, zmG_v, zb_14_52, List.length_append]
          exact ⟨M2, rfl, s2, fun q => absurd ⟨g3, k⟩ q, fun _ => ⟨fun _ => s3, fun q => absurd rfl q⟩⟩
        · rw [if_neg k] at r3
          have hM : M = m := by
            have q := zk_16 (L := L) (D + 8) yTo_2 h.1.1 x ⟨g2.1, by omega⟩
            have e1 : zmD zP (D + 8 + 1) 16 [zr 2, zi x] (zW L m) = some (some (zi 0), zW L m) := by
              rw [zen_16, zb_16_0, yoi yTo_2, zbs, yor yTo_2, zbs, yol yTo_2, zbs, h.1.1.1, if_neg (by omega)]
            rw [r1] at e1
            have e2 := congrArg (fun o : Option zmR => o.map fun r => r.2.2.2.2.2) e1
            exact Option.some.inj e2
          rw [if_neg k, if_neg k, if_pos rfl, hM]
          exact ⟨m, rfl, yFr_rfl, fun _ => h, fun q => absurd q.2 k⟩
      · obtain ⟨M, r1, r2, r3⟩ := zk_16 (L := L) (D + 8) yTo_4 h.1.2.1 x ⟨g2.1, by omega⟩
        have hcap : yCap 1 = 10 := rfl
        rw [zar_1_1, zbs, yoc yTo_4, r1, zbs, zmG_v, zb_14_32, hcap]
        by_cases k : (w 1).length < 10
        · rw [if_pos k] at r3
          rw [if_pos k, if_pos k, if_neg (by decide), zcv_0, zen_17, zb_17_0, if_neg (by decide), zb_17_8, zbs, zmG_n, zb_14_43, zgr_0_0, zbs, zar_1_1, zbs, yoc yTo_4, zk_22 (D + 8) yTo_4 r3, zbs, zmG_v, zb_14_52, List.length_append]
          exact ⟨M, rfl, yFr_wd r2 (by decide) (by decide), fun q => absurd ⟨g3, k⟩ q, fun _ => ⟨fun q => absurd q (by decide), fun _ => yCs_t h (.inl rfl) r2 r3⟩⟩
        · have hM : M = m := by
            have e1 : zmD zP (D + 8 + 1) 16 [zr 4, zi x] (zW L m) = some (some (zi 0), zW L m) := by
              rw [zen_16, zb_16_0, yoi yTo_4, zbs, yor yTo_4, zbs, yol yTo_4, zbs, h.1.2.1.1, if_neg (by omega)]
            rw [r1] at e1
            have e2 := congrArg (fun o : Option zmR => o.map fun r => r.2.2.2.2.2) e1
            exact Option.some.inj e2
          rw [if_neg k, if_neg k, if_pos rfl, hM]
          exact ⟨m, rfl, yFr_rfl, fun _ => h, fun q => absurd q.2 k⟩
      · obtain ⟨M, r1, r2, r3⟩ := zk_16 (L := L) (D + 8) yTo_6 h.1.2.2 x ⟨g2.1, by omega⟩
        have hcap : yCap 2 = 60 := rfl
        rw [zar_1_2, zbs, yoc yTo_6, r1, zbs, zmG_v, zb_14_32, hcap]
        by_cases k : (w 2).length < 60
        · rw [if_pos k] at r3
          rw [if_pos k, if_pos k, if_neg (by decide), zcv_0, zen_17, zb_17_0, if_neg (by decide), zb_17_8, zbs, zmG_n, zb_14_43, zgr_0_0, zbs, zar_1_2, zbs, yoc yTo_6, zk_22 (D + 8) yTo_6 r3, zbs, zmG_v, zb_14_52, List.length_append]
          exact ⟨M, rfl, yFr_wd r2 (by decide) (by decide), fun q => absurd ⟨g3, k⟩ q, fun _ => ⟨fun q => absurd q (by decide), fun _ => yCs_t h (.inr rfl) r2 r3⟩⟩
        · have hM : M = m := by
            have e1 : zmD zP (D + 8 + 1) 16 [zr 6, zi x] (zW L m) = some (some (zi 0), zW L m) := by
              rw [zen_16, zb_16_0, yoi yTo_6, zbs, yor yTo_6, zbs, yol yTo_6, zbs, h.1.2.2.1, if_neg (by omega)]
            rw [r1] at e1
            have e2 := congrArg (fun o : Option zmR => o.map fun r => r.2.2.2.2.2) e1
            exact Option.some.inj e2
          rw [if_neg k, if_neg k, if_pos rfl, hM]
          exact ⟨m, rfl, yFr_rfl, fun _ => h, fun q => absurd q.2 k⟩
    · rw [if_neg (c := (0 ≤ t ∧ t ≤ 2) ∧ 0 ≤ x ∧ x ≤ 255) (fun q => g2 q.2)]
      have e1 : ∀ X : Option zmR, (if x < 0 then some (some (zi (-2)), zW L m) else if 255 < x then some (some (zi (-2)), zW L m) else X) = some (some (zi (-2)), zW L m) := fun X => by
        by_cases k : x < 0
        · rw [if_pos k]
        · rw [if_neg k, if_pos (by omega)]
      rw [e1]
      exact ⟨m, rfl, yFr_rfl, fun _ => h, fun q => absurd q.1.2 g2⟩
  · rw [if_neg g, if_neg (by decide), if_neg (fun q => g q.1)]
    exact ⟨m, rfl, yFr_rfl, fun _ => h, fun q => absurd q.1.1 g⟩
theorem yTw_nil {M : Nat → Int → Int} {t C : Nat} (h : M t 1 = 0) : yTw M t C [] := ⟨h, Nat.zero_le _, fun i hi => absurd hi (Nat.not_lt_zero i)⟩
theorem yk_53 (h : yCs m w b c n e W F Z) (t : Int) : ∃ m', zmD zP (D + 10) 53 [zr 0, zi t] (zW L m) = some (some (zi (if 0 ≤ t ∧ t ≤ 2 then (w t).length else -2)), zW L m') ∧ yFr 0 97 m m' ∧ (¬ (0 ≤ t ∧ t ≤ 2) → yCs m' w b c n e W F Z) ∧ (0 ≤ t ∧ t ≤ 2 → yCt m' w b c n e W F Z t [] yCs) := by
  have up : ∀ (o : Nat) (k z : Int), yFr o (o + 1) m (zup m o k z) := fun o k z x hx => by
    funext j
    rw [zup_ne (by omega)]
  rw [zen_53, zb_53_0, zcv_0, zk_15, zbs, zmG_v, zb_53_5]
  by_cases g : 0 ≤ t ∧ t ≤ 2
  · rw [if_pos g, if_pos rfl, if_pos g, zgr_0_0, zbs]
    have tt : t = 0 ∨ t = 1 ∨ t = 2 := by omega
    rcases tt with tt | tt | tt <;> subst tt
    · obtain ⟨M2, s1, s2, s3, s4⟩ := yk_17a (L := L) D h (up 2 1 0) (yTw_nil (M := zup m 2 1 0) (t := 2) (C := 80) zup_self)
      rw [zar_1_0, zbs, yoc yTo_2, zk_22 (D + 8) yTo_2 h.1.1, zbs, zmG_v, zb_53_20, zgr_0_0, zbs, zar_1_0, zbs, yoc yTo_2, zk_54 (D + 8) yTo_2, zbs, zmG_n, zb_53_30, zcv_0, s1, zbs, zmG_n, zb_53_35]
      exact ⟨M2, rfl, s2, fun q => absurd g q, fun _ => ⟨fun _ => s3, fun q => absurd rfl q⟩⟩
    · rw [zar_1_1, zbs, yoc yTo_4, zk_22 (D + 8) yTo_4 h.1.2.1, zbs, zmG_v, zb_53_20, zgr_0_0, zbs, zar_1_1, zbs, yoc yTo_4, zk_54 (D + 8) yTo_4, zbs, zmG_n, zb_53_30, zcv_0, zen_17, zb_17_0, if_neg (by decide), zb_17_8, zbs, zmG_n, zb_53_35]
      exact ⟨_, rfl, yFr_wd (up 4 1 0) (by decide) (by decide), fun q => absurd g q, fun _ => ⟨fun q => absurd q (by decide), fun _ => yCs_t h (.inl rfl) (up 4 1 0) (yTw_nil zup_self)⟩⟩
    · rw [zar_1_2, zbs, yoc yTo_6, zk_22 (D + 8) yTo_6 h.1.2.2, zbs, zmG_v, zb_53_20, zgr_0_0, zbs, zar_1_2, zbs, yoc yTo_6, zk_54 (D + 8) yTo_6, zbs, zmG_n, zb_53_30, zcv_0, zen_17, zb_17_0, if_neg (by decide), zb_17_8, zbs, zmG_n, zb_53_35]
      exact ⟨_, rfl, yFr_wd (up 6 1 0) (by decide) (by decide), fun q => absurd g q, fun _ => ⟨fun q => absurd q (by decide), fun _ => yCs_t h (.inr rfl) (up 6 1 0) (yTw_nil zup_self)⟩⟩
  · rw [if_neg g, if_neg (by decide), if_neg g]
    exact ⟨m, rfl, yFr_rfl, fun _ => h, fun q => absurd q g⟩
end ZR
