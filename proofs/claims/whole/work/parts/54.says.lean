/-! the reference reads a saying: byteAt, tells, says -/
def yCap (t : Int) : Nat := if t = 0 then 80 else if t = 1 then 10 else 60
/-- text t of the reference -/
def yRt (m : Nat → Int → Int) (t : Int) (w : List Int) : Prop := (0 ≤ t ∧ t ≤ 2) ∧ m 104 t = w.length ∧ w.length ≤ yCap t ∧ ∀ i : Nat, i < w.length → m 103 (zst t + i) = w.getD i 0 ∧ 0 ≤ w.getD i 0 ∧ w.getD i 0 < 256
/-- a frame by cell and index: what P holds of may change -/
def yFq (P : Nat → Int → Prop) (m m' : Nat → Int → Int) : Prop := ∀ x j, ¬ P x j → m' x j = m x j
theorem yFq_rfl {P : Nat → Int → Prop} {m : Nat → Int → Int} : yFq P m m := fun _ _ _ => rfl
theorem yFq_tr {P : Nat → Int → Prop} {m m' m'' : Nat → Int → Int} (h : yFq P m m') (h2 : yFq P m' m'') : yFq P m m'' := fun x j hx => (h2 x j hx).trans (h x j hx)
theorem yFq_wd {P Q : Nat → Int → Prop} {m m' : Nat → Int → Int} (h : yFq P m m') (h2 : ∀ x j, P x j → Q x j) : yFq Q m m' := fun x j hx => h x j fun q => hx (h2 x j q)
theorem yFq_up {P : Nat → Int → Prop} {m m' : Nat → Int → Int} {a : Nat} {k z : Int} (h : yFq P m m') (h2 : P a k) : yFq P m (zup m' a k z) := fun x j hx => by
  unfold zup
  rw [if_neg, h x j hx]
  rintro ⟨rfl, rfl⟩
  exact hx h2
theorem yRt_fr {P : Nat → Int → Prop} {m m' : Nat → Int → Int} {t : Int} {w : List Int} (h : yRt m t w) (hf : yFq P m m') (h2 : ∀ j, ¬ P 103 j ∧ ¬ P 104 j) : yRt m' t w := by
  obtain ⟨h0, h1, h3, h4⟩ := h
  refine ⟨h0, by rw [hf _ _ (h2 t).2, h1], h3, fun i hi => ?_⟩
  rw [hf _ _ (h2 _).1]
  exact h4 i hi
def yS5 (x : Nat) (j : Int) : Prop := x = 98 ∧ 13 ≤ j ∧ j ≤ 17
theorem yS5_text : ∀ j, ¬ yS5 103 j ∧ ¬ yS5 104 j := fun j => ⟨fun q => absurd q.1 (by decide), fun q => absurd q.1 (by decide)⟩
/-- what the reference holds of a saying -/
def yTup (m : Nat → Int → Int) (q : Int × Int × Int × Int) : Prop := m 98 14 = q.1 ∧ m 98 15 = q.2.1 ∧ m 98 16 = q.2.2.1 ∧ m 98 17 = q.2.2.2
section ZR
variable {L : Nat} {m : Nat → Int → Int} (d : Nat) {t : Int} {w : List Int}
theorem zk_197t (h : yRt m t w) (k : Int) (hk : 0 ≤ k) : zmD zP (d + 2) 197 [zr 98, zi t, zi k] (zW L m) = some (some (zi (yGet w k)), zW L m) := by
  obtain ⟨⟨t1, t2⟩, h1, h3, h4⟩ := h
  have hc : w.length ≤ 60 ∨ t = 0 ∧ w.length ≤ 80 := by
    unfold yCap at h3
    split at h3
    · exact .inr ⟨by assumption, h3⟩
    · split at h3 <;> omega
  rw [zk_197 d t k t1 t2 hk (fun q => by omega), h1]
  unfold yGet
  by_cases g : k < w.length
  · have e := (h4 k.toNat (by omega)).1
    rw [show ((k.toNat : Nat) : Int) = k by omega] at e
    rw [if_pos g, if_pos ⟨hk, g⟩, e]
  · rw [if_neg g, if_neg (by omega)]
theorem zk_222 (h : yRt m t w) (first : Nat) (u : List Int) (hu : (w.drop first).take u.length = u) (hl : first + u.length ≤ w.length) (hn : 1 ≤ u.length ∧ u.length ≤ 4) : ∃ m', zmD zP (d + 3) 222 [zr 98, zi t, zi first, zi u.length] (zW L m) = some (none, zW L m') ∧ yFq yS5 m m' ∧ yTup m' (yTell u) ∧ m' 98 13 = m 98 13 := by
  have hcap : w.length ≤ 80 := by
    have := h.2.2.1
    unfold yCap at this
    split at this
    · exact this
    · split at this <;> omega
  have gb : ∀ i : Nat, i < u.length → yGet w ((first : Int) + i) = u.getD i 0 := fun i hi => by
    have e : ((first : Int) + i) = ((first + i : Nat) : Int) := by omega
    rw [e, yGet_at (by omega)]
    have e2 : u.getD i 0 = ((w.drop first).take u.length).getD i 0 := by rw [hu]
    rw [e2, List.getD_eq_getElem?_getD, List.getD_eq_getElem?_getD, List.getElem?_take_of_lt hi, List.getElem?_drop]
  have rb : ∀ (M : Nat → Int → Int), yFq yS5 m M → ∀ k : Int, 0 ≤ k → zmD zP (d + 2) 197 [zr 98, zi t, zi k] (zW L M) = some (some (zi (yGet w k)), zW L M) := fun M hM k hk => zk_197t d (yRt_fr h hM yS5_text) k hk
  have F : ∀ (M : Nat → Int → Int) (k z : Int), 13 ≤ k → k ≤ 17 → yFq yS5 m M → yFq yS5 m (zup M 98 k z) := fun M k z k1 k2 hM => yFq_up hM ⟨rfl, k1, k2⟩
  have F0 : yFq yS5 m m := yFq_rfl
  match u, hn, hl, gb with
  | [x], hn, hl, gb =>
    have g0 := gb 0 (by simp only [List.length_cons, List.length_nil]; omega)
    rw [show ((0 : Nat) : Int) = 0 from rfl, Int.add_zero] at g0
    show ∃ m', zmD zP (d + 3) 222 [zr 98, zi t, zi first, zi 1] (zW L m) = _ ∧ _
    rw [zen_222, zb_222_0, zcv_98, rb _ F0 _ (by omega), zbs, zmG_v, zb_222_6, zpi_98, zbs, zpi_98, zbs, if_pos rfl, zk_220, zbs, zmG_v, zb_222_29, zpi_98, zbs, zk_221, zbs, zmG_v, zb_222_38, zpi_98, zbs, g0]
    exact ⟨_, rfl, F _ _ _ (by decide) (by decide) (F _ _ _ (by decide) (by decide) (F _ _ _ (by decide) (by decide) (F _ _ _ (by decide) (by decide) F0))), ⟨rfl, rfl, rfl, rfl⟩, rfl⟩
  | [x, y], hn, hl, gb =>
    have g0 := gb 0 (by simp only [List.length_cons, List.length_nil]; omega)
    have g1 := gb 1 (by simp only [List.length_cons, List.length_nil]; omega)
    rw [show ((0 : Nat) : Int) = 0 from rfl, Int.add_zero] at g0
    have hl : first + 2 ≤ w.length := hl
    show ∃ m', zmD zP (d + 3) 222 [zr 98, zi t, zi first, zi 2] (zW L m) = _ ∧ _
    have F2 : yFq yS5 m (zup (zup m 98 14 (-1)) 98 15 (-1)) := F _ _ _ (by decide) (by decide) (F _ _ _ (by decide) (by decide) F0)
    rw [zen_222, zb_222_0, zcv_98, rb _ F0 _ (by omega), zbs, zmG_v, zb_222_6, zpi_98, zbs, zpi_98, zbs, if_neg (by decide), zcv_98, w32_of (z := (first : Int) + 2) (by omega) (by omega), w32_of (z := (first : Int) + 2 - 2) (by omega) (by omega), rb _ F2 _ (by omega), zbs, zmG_v, zb_222_53, zk_220, zbs, zmG_v, zb_222_56, zpi_98, zbs, zcv_98, w32_of (z := (first : Int) + 2) (by omega) (by omega), w32_of (z := (first : Int) + 2 - 1) (by omega) (by omega), rb _ (F _ _ _ (by decide) (by decide) F2) _ (by omega), zbs, zmG_v, zb_222_70, zk_221, zbs, zmG_v, zb_222_73, zpi_98, zbs, if_neg (by decide), show (first : Int) + 2 - 2 = first by omega, show (first : Int) + 2 - 1 = first + ((1 : Nat) : Int) by omega, g0, g1]
    exact ⟨_, rfl, F _ _ _ (by decide) (by decide) (F _ _ _ (by decide) (by decide) F2), ⟨rfl, rfl, rfl, rfl⟩, rfl⟩
  | [x, y, z], hn, hl, gb =>
    have g0 := gb 0 (by simp only [List.length_cons, List.length_nil]; omega)
    have g1 := gb 1 (by simp only [List.length_cons, List.length_nil]; omega)
    have g2 := gb 2 (by simp only [List.length_cons, List.length_nil]; omega)
    rw [show ((0 : Nat) : Int) = 0 from rfl, Int.add_zero] at g0
    have hl : first + 3 ≤ w.length := hl
    show ∃ m', zmD zP (d + 3) 222 [zr 98, zi t, zi first, zi 3] (zW L m) = _ ∧ _
    have F2 : yFq yS5 m (zup (zup m 98 14 (-1)) 98 15 (-1)) := F _ _ _ (by decide) (by decide) (F _ _ _ (by decide) (by decide) F0)
    rw [zen_222, zb_222_0, zcv_98, rb _ F0 _ (by omega), zbs, zmG_v, zb_222_6, zpi_98, zbs, zpi_98, zbs, if_neg (by decide), zcv_98, w32_of (z := (first : Int) + 3) (by omega) (by omega), w32_of (z := (first : Int) + 3 - 2) (by omega) (by omega), rb _ F2 _ (by omega), zbs, zmG_v, zb_222_53, zk_220, zbs, zmG_v, zb_222_56, zpi_98, zbs, zcv_98, w32_of (z := (first : Int) + 3) (by omega) (by omega), w32_of (z := (first : Int) + 3 - 1) (by omega) (by omega), rb _ (F _ _ _ (by decide) (by decide) F2) _ (by omega), zbs, zmG_v, zb_222_70, zk_221, zbs, zmG_v, zb_222_73, zpi_98, zbs, if_pos (by decide), zk_220, zbs, zmG_v, zb_222_87, zpi_98, zbs, if_neg (by decide), zb_222_109, zk_221, zbs, zmG_v, zb_222_112, zpi_98, zbs, show (first : Int) + 3 - 2 = first + ((1 : Nat) : Int) by omega, show (first : Int) + 3 - 1 = first + ((2 : Nat) : Int) by omega, g0, g1, g2]
    exact ⟨_, rfl, F _ _ _ (by decide) (by decide) (F _ _ _ (by decide) (by decide) (F _ _ _ (by decide) (by decide) (F _ _ _ (by decide) (by decide) F2))), ⟨rfl, rfl, rfl, rfl⟩, rfl⟩
  | [x, y, z, v], hn, hl, gb =>
    have g0 := gb 0 (by simp only [List.length_cons, List.length_nil]; omega)
    have g1 := gb 1 (by simp only [List.length_cons, List.length_nil]; omega)
    have g2 := gb 2 (by simp only [List.length_cons, List.length_nil]; omega)
    have g3 := gb 3 (by simp only [List.length_cons, List.length_nil]; omega)
    rw [show ((0 : Nat) : Int) = 0 from rfl, Int.add_zero] at g0
    have hl : first + 4 ≤ w.length := hl
    show ∃ m', zmD zP (d + 3) 222 [zr 98, zi t, zi first, zi 4] (zW L m) = _ ∧ _
    have F2 : yFq yS5 m (zup (zup m 98 14 (-1)) 98 15 (-1)) := F _ _ _ (by decide) (by decide) (F _ _ _ (by decide) (by decide) F0)
    rw [zen_222, zb_222_0, zcv_98, rb _ F0 _ (by omega), zbs, zmG_v, zb_222_6, zpi_98, zbs, zpi_98, zbs, if_neg (by decide), zcv_98, w32_of (z := (first : Int) + 4) (by omega) (by omega), w32_of (z := (first : Int) + 4 - 2) (by omega) (by omega), rb _ F2 _ (by omega), zbs, zmG_v, zb_222_53, zk_220, zbs, zmG_v, zb_222_56, zpi_98, zbs, zcv_98, w32_of (z := (first : Int) + 4) (by omega) (by omega), w32_of (z := (first : Int) + 4 - 1) (by omega) (by omega), rb _ (F _ _ _ (by decide) (by decide) F2) _ (by omega), zbs, zmG_v, zb_222_70, zk_221, zbs, zmG_v, zb_222_73, zpi_98, zbs, if_pos (by decide), zk_220, zbs, zmG_v, zb_222_87, zpi_98, zbs, if_pos rfl, zcv_98, w32_of (z := (first : Int) + 1) (by omega) (by omega), rb _ (F _ _ _ (by decide) (by decide) (F _ _ _ (by decide) (by decide) (F _ _ _ (by decide) (by decide) F2))) _ (by omega), zbs, zmG_v, zb_222_104, zb_222_109, zk_221, zbs, zmG_v, zb_222_112, zpi_98, zbs, show (first : Int) + 4 - 2 = first + ((2 : Nat) : Int) by omega, show (first : Int) + 4 - 1 = first + ((3 : Nat) : Int) by omega, show (first : Int) + 1 = first + ((1 : Nat) : Int) by omega, g0, g1, g2, g3]
    exact ⟨_, rfl, F _ _ _ (by decide) (by decide) (F _ _ _ (by decide) (by decide) (F _ _ _ (by decide) (by decide) (F _ _ _ (by decide) (by decide) F2))), ⟨rfl, rfl, rfl, rfl⟩, rfl⟩
  | [], hn, _, _ => exact absurd hn.1 (by decide)
  | x :: y :: z :: v :: a :: u, hn, _, _ =>
    exfalso
    have := hn.2
    simp only [List.length_cons] at this
    omega
end ZR
