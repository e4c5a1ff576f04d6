/-! the class's games: played out -/
noncomputable def yGo : List (List Int) → (Int → Int) → Int → List Int
  | [], _, _ => []
  | p :: ps, b, c => match (yMv b c).filter (yMean b p) with
    | [v] => v :: yGo ps (yPut b (v / 64) (v % 64)) (8 - c)
    | _ => []
theorem yGo_one {p : List Int} {ps : List (List Int)} {b : Int → Int} {c v : Int} (h : (yMv b c).filter (yMean b p) = [v]) : yGo (p :: ps) b c = v :: yGo ps (yPut b (v / 64) (v % 64)) (8 - c) := by
  rw [yGo, h]
theorem yGo_no {p : List Int} {ps : List (List Int)} {b : Int → Int} {c : Int} (h : ((yMv b c).filter (yMean b p)).length ≠ 1) : yGo (p :: ps) b c = [] := by
  rw [yGo]
  generalize (yMv b c).filter (yMean b p) = xs at *
  match xs with
  | [] => rfl
  | [v] => exact absurd rfl h
  | _ :: _ :: _ => rfl
theorem yGo_le {b : Int → Int} {c : Int} : ∀ ps : List (List Int), ∀ (b : Int → Int) (c : Int), (yGo ps b c).length ≤ ps.length
  | [], b, c => Nat.le_refl _
  | p :: ps, b, c => by
    by_cases h : ((yMv b c).filter (yMean b p)).length = 1
    · obtain ⟨v, hv⟩ := List.length_eq_one_iff.mp h
      rw [yGo_one hv, List.length_cons, List.length_cons]
      have := yGo_le (b := b) (c := c) ps (yPut b (v / 64) (v % 64)) (8 - c)
      omega
    · rw [yGo_no h]
      exact Nat.zero_le _
theorem yKg_cg {b b' : Int → Int} {v k : Int} (h : yAg b b') (hk : yKg b v k) : yKg b' v k := by
  rcases hk with ⟨h1, h2⟩ | ⟨h1, h2, h3, h4⟩
  · exact .inl ⟨h1, fun s s1 s2 => by rw [← h s s1 s2]; exact h2 s s1 s2⟩
  · exact .inr ⟨h1, h2, by rw [← h k h1 h2]; exact h3, fun s s1 s2 s3 => h4 s s1 s2 (by rw [h s s1 s2]; exact s3)⟩
section ZR
variable {L : Nat} {m : Nat → Int → Int} (D : Nat)
theorem yBd_58 : yBd L 58 59 := ⟨zh_58, (zw_gr (L := L) (m := fun _ _ => 0) (congrArg Prod.fst zh_58)).symm.trans zgr_58_0, zh_59, by decide, by decide, by decide⟩
theorem yLs_60 : yLs L 60 2 := ⟨⟨zh_60, (zw_gr (L := L) (m := fun _ _ => 0) (congrArg Prod.fst zh_60)).symm.trans zgr_60_0, (zw_gr (L := L) (m := fun _ _ => 0) (congrArg Prod.fst zh_60)).symm.trans zgr_60_1, (zw_gr (L := L) (m := fun _ _ => 0) (congrArg Prod.fst zh_60)).symm.trans zgr_60_2⟩, ⟨zh_61, zh_62, zh_63⟩, by decide, by decide⟩
/-- a board taken over is a board as it should be -/
theorem yTk_gd {a e a0 e0 : Nat} (h : yGd2 m a0 e0) (hn : a ≠ e ∧ a0 ≠ e0 ∧ a0 ≠ a ∧ a0 ≠ e ∧ e0 ≠ a ∧ e0 ≠ e) (ha : a < 1000 ∧ e < 1000) : yGd2 (yTk m a e a0 e0) a e ∧ yAg (m e0) (yTk m a e a0 e0 e) ∧ yTk m a e a0 e0 a 1 = m a0 1 ∧ ∀ x, x ≠ a → x ≠ e → yTk m a e a0 e0 x = m x := by
  have k1 : ∀ x, x ≠ a → x ≠ e → yTk m a e a0 e0 x = m x := fun x x1 x2 => by
    funext j
    unfold yTk
    rw [zup_ne x1, zup_ne x1, zup_ne x1, zcp_ne x2]
  have k2 : yAg (m e0) (yTk m a e a0 e0 e) := fun s s1 s2 => by
    unfold yTk
    rw [zup_ne (fun q => hn.1 q.symm), zup_ne (fun q => hn.1 q.symm), zup_ne (fun q => hn.1 q.symm)]
    unfold zcp
    rw [if_pos ⟨rfl, s1, by omega⟩, show (0 : Int) + (s - 0) = s by omega]
  have k3 : yTk m a e a0 e0 a 3 = m a0 3 := zup_self
  have k4 : yTk m a e a0 e0 a 2 = m a0 2 := (zup_ne2 (by decide)).trans zup_self
  have k5 : yTk m a e a0 e0 a 1 = m a0 1 := (zup_ne2 (by decide)).trans ((zup_ne2 (by decide)).trans zup_self)
  refine ⟨?_, k2, k5, k1⟩
  obtain ⟨h1, h2, h3, h4, h5⟩ := h
  unfold yGd2
  rw [k3, k4, k5]
  refine ⟨?_, fun s s1 s2 => by rw [← k2 s s1 s2]; exact h2 s s1 s2, h3, yKg_cg k2 h4, yKg_cg k2 h5⟩
  have qt : ∀ j, yTk m a e a0 e0 (zXB + j) = m (zXB + j) := fun j => k1 _ (by unfold zXB; omega) (by unfold zXB; omega)
  unfold yTab
  rw [qt, qt, qt, qt, qt]
  exact h1
/-- the moves that fit a part, as the class lists them -/
theorem zk_156 {i : Nat} {p : List Int} {b : Int → Int} {c : Int} {n : Int} (hn : m 42 5 = n) (hi : (i : Int) < n) (hi2 : i < 12) (hp : yPd m i p) (hg : yGd2 m 58 59) (hb : yAg (yB (m 59)) b) (hc : 8 * m 58 1 = c) : ∃ m', zmD zP (D + 5) 156 [zr 42, zi i, zr 58, zr 60] (zW L m) = some (none, zW L m') ∧ yFr 60 63 m m' ∧ m' 60 3 = (((yMv b c).filter (yMean b p)).take 2).length ∧ ∀ k : Nat, k < (((yMv b c).filter (yMean b p)).take 2).length → m' 61 k = (((yMv b c).filter (yMean b p)).take 2).getD k 0 := by
  obtain ⟨M, r1, r2, r3, r4⟩ := zk_75 (L := L) (m := m) D yBd_58 (yGd2_1 hg) yLs_60 (zsh_44 (L := L) hi2) (.inl (by decide)) (.inl (by decide)) (.inl (by omega))
  have e1 : yMv (yB (m 59)) (8 * m 58 1) = yMv b c := by rw [hc, yMv_cg hb]
  have e2 : (yMv b c).filter (yFc m (44 + i) (yB (m 59))) = (yMv b c).filter (yMean b p) := by
    apply List.filter_congr
    intro v hv
    obtain ⟨⟨v1, v2⟩, -⟩ := yMv_go hv
    have : yT (yFitC m (44 + i) (yB (m 59) (v / 64) % 8 - 1) v) = yT (yFits p (b (v / 64) % 8 - 1) v) := by
      rw [hb (v / 64) (by omega) (by omega)]
      refine yT_c ?_
      unfold yFitC yFits
      rw [hp.1.1, hp.1.2.1, hp.1.2.2]
      constructor
      · rintro ⟨q1, q2⟩
        refine ⟨Classical.byContradiction fun q => q1 (yT_neg q), q2⟩
      · rintro ⟨q1, q2⟩
        exact ⟨by rw [yT_pos q1]; decide, q2⟩
    unfold yFc yMean
    rw [this]
  rw [e1, e2] at r3 r4
  rw [zen_156, zb_156_0, if_neg (by omega), zgi_42, zbs, hn, if_pos hi, zgr_42_0, zbs, zar_43 hi2, zbs, zcv_58, r1, zbs, zmG_n, zb_156_23, zb_156_30]
  exact ⟨M, rfl, r2, r3.1, fun k hk => (r3.2 k hk).1⟩
end ZR
