/-! what is lawful depends on the 64 squares alone -/
def yAg (b b' : Int → Int) : Prop := ∀ s, 0 ≤ s → s < 64 → b s = b' s
theorem yAg_sym {b b' : Int → Int} (h : yAg b b') : yAg b' b := fun s h1 h2 => (h s h1 h2).symm
theorem yAg_tr {b b' b'' : Int → Int} (h : yAg b b') (h2 : yAg b' b'') : yAg b b'' := fun s q1 q2 => (h s q1 q2).trans (h2 s q1 q2)
theorem yFree_cg {b b' : Int → Int} (h : yAg b b') {f t : Int} (hf : 0 ≤ f ∧ f < 64) (ht : 0 ≤ t ∧ t < 64) (hl : zLine f t) (hb : yFreeTo b f t) : yFreeTo b' f t := fun k k1 k2 => by
  obtain ⟨a1, a2, -⟩ := zLine_at hl hf ht k (by omega)
  rw [← h _ a1 a2]
  exact hb k k1 k2
theorem yReach_cg {b b' : Int → Int} (h : yAg b b') {f t : Int} (hf : 0 ≤ f ∧ f < 64) (ht : 0 ≤ t ∧ t < 64) (hb : yReach b f t) : yReach b' f t := by
  have hm : zAc f t * zAl f t = 0 → f ≠ t → zLine f t := fun q q2 => ⟨q2, by
    rcases Int.mul_eq_zero.mp q with q | q
    · exact .inl (by have := (zamt_b (v := t % 8 - f % 8) (by omega)).2.2.mp q; omega)
    · exact .inr (.inl (by have : t / 8 - f / 8 = 0 := q; omega))⟩
  unfold yReach at *
  rw [h f hf.1 hf.2] at hb
  rcases hb with q | q | ⟨q1, q2, q3, q4⟩ | ⟨q1, q2, q3, q4⟩ | ⟨q1, q2, q3, q4⟩ | q
  · exact .inl q
  · exact .inr (.inl q)
  · refine .inr (.inr (.inl ⟨q1, q2, q3, yFree_cg h hf ht ⟨fun e => ?_, .inr (.inr q2)⟩ q4⟩))
    subst e
    unfold zAc zamt at q3
    split at q3 <;> omega
  · exact .inr (.inr (.inr (.inl ⟨q1, q2, q3, yFree_cg h hf ht (hm q2 q3) q4⟩)))
  · exact .inr (.inr (.inr (.inr (.inl ⟨q1, q2, q3, yFree_cg h hf ht (q3.elim (fun q => hm q q2) fun q => ⟨q2, .inr (.inr q)⟩) q4⟩))))
  · exact .inr (.inr (.inr (.inr (.inr q))))
theorem yGoes_cg {b b' : Int → Int} (h : yAg b b') {f t : Int} (hf : 0 ≤ f ∧ f < 64) (ht : 0 ≤ t ∧ t < 64) (hb : yGoes b f t) : yGoes b' f t := by
  unfold yGoes at *
  rw [h f hf.1 hf.2, h t ht.1 ht.2, h ((f + t) / 2) (by omega) (by omega)] at hb
  exact hb
theorem yMay_cg {b b' : Int → Int} (h : yAg b b') {c f t : Int} (hf : 0 ≤ f ∧ f < 64) (ht : 0 ≤ t ∧ t < 64) (hb : yMay b c f t) : yMay b' c f t := by
  unfold yMay at *
  rw [h f hf.1 hf.2, h t ht.1 ht.2] at hb
  refine ⟨hb.1, hb.2.1, ?_⟩
  have := hb.2.2
  split
  · rename_i g
    rw [if_pos g] at this
    exact yGoes_cg h hf ht this
  · rename_i g
    rw [if_neg g] at this
    exact yReach_cg h hf ht this
theorem yLast_cg {b b' : Int → Int} (h : yAg b b') {k : Int} : ∀ n : Nat, n ≤ 64 → yLast b k n = yLast b' k n
  | 0, _ => rfl
  | n + 1, hn => by
    unfold yLast
    rw [h n (by omega) (by omega), yLast_cg h n (by omega)]
theorem yAtt_cg {b b' : Int → Int} (h : yAg b b') {c : Int} (hb : yAtt b c) : yAtt b' c := by
  have hl := yLast_in (b := b) (k := c + 6) 64
  unfold yAtt at *
  rw [← yLast_cg h 64 (Nat.le_refl 64)]
  obtain ⟨h1, s, s1, s2, h2, h3⟩ := hb
  refine ⟨h1, s, s1, s2, by rw [← h s s1 s2]; exact h2, yReach_cg h ⟨s1, s2⟩ ?_ h3⟩
  rcases hl with q | ⟨q1, q2, -⟩
  · exact absurd q h1
  · exact ⟨q1, q2⟩
theorem yPut_cg {b b' : Int → Int} (h : yAg b b') {f t : Int} (hf : 0 ≤ f ∧ f < 64) : yAg (yPut b f t) (yPut b' f t) := fun s s1 s2 => by
  unfold yPut
  rw [h f hf.1 hf.2, h s s1 s2]
theorem yLaw_cg {b b' : Int → Int} (h : yAg b b') {c f t : Int} (hf : 0 ≤ f ∧ f < 64) (ht : 0 ≤ t ∧ t < 64) : yLaw b c f t ↔ yLaw b' c f t :=
  ⟨fun q => ⟨yMay_cg h hf ht q.1, fun q2 => q.2 (yAtt_cg (yAg_sym (yPut_cg h hf)) q2)⟩, fun q => ⟨yMay_cg (yAg_sym h) hf ht q.1, fun q2 => q.2 (yAtt_cg (yPut_cg h hf) q2)⟩⟩
theorem yMvs_cg {b b' : Int → Int} (h : yAg b b') {c : Int} : ∀ n : Nat, n ≤ 4096 → yMvs b c n = yMvs b' c n
  | 0, _ => rfl
  | n + 1, hn => by
    rw [yMvs_succ, yMvs_succ, yMvs_cg h n (by omega), yT_c (yLaw_cg h (by omega) (by omega))]
theorem yMv_cg {b b' : Int → Int} (h : yAg b b') {c : Int} : yMv b c = yMv b' c := yMvs_cg h 4096 (Nat.le_refl _)
theorem yOkv_mv {b : Int → Int} {c : Int} (hB : zOkB b) (hB2 : ∀ s, 0 ≤ s → s < 64 → b s % 8 ≠ 7) (hB3 : ∀ s, 0 ≤ s → s < 64 → b s ≠ 8) (hc : c = 0 ∨ c = 8) : yOkv b (yMv b c) := fun v hv => by
  obtain ⟨h1, h2, h3⟩ := yMv_mem.mp hv
  refine ⟨⟨h1, h2⟩, ?_⟩
  have q1 := hB (v / 64) (by omega) (by omega)
  have q2 := hB2 (v / 64) (by omega) (by omega)
  have q3 := hB3 (v / 64) (by omega) (by omega)
  have q4 : b (v / 64) ≠ 0 := fun q => by
    have := h3.1.1
    rw [q] at this
    unfold zcol at this
    rw [if_pos rfl] at this
    omega
  omega
theorem yOkv_cg {b b' : Int → Int} {xs : List Int} (h : yAg b b') (ho : yOkv b xs) : yOkv b' xs := fun v hv => by
  obtain ⟨h1, h2⟩ := ho v hv
  rw [← h (v / 64) (by omega) (by omega)]
  exact ⟨h1, h2⟩
theorem yKf_cg {b b' : Int → Int} (h : yAg b b') {f v : Int} (hv : 0 ≤ v ∧ v < 4096) : yKf b f v = yKf b' f v := by
  unfold yKf
  rw [h (v / 64) (by omega) (by omega)]
theorem yCn_cg {b b' : Int → Int} {xs : List Int} (h : yAg b b') (ho : yOkv b xs) {f v : Int} (hv : 0 ≤ v ∧ v < 4096) : yCn b xs f v = yCn b' xs f v := by
  unfold yCn
  refine List.countP_congr fun u hu => ?_
  rw [yKf_cg h (ho u hu).1, yKf_cg h hv]
theorem yFm_cg {b b' : Int → Int} {xs : List Int} (h : yAg b b') (ho : yOkv b xs) {v : Int} (hv : 0 ≤ v ∧ v < 4096) : ∀ n : Nat, yFm b xs v n = yFm b' xs v n
  | 0 => rfl
  | n + 1 => by rw [yFm_succ, yFm_succ, yFm_cg h ho hv n, yCn_cg h ho hv]
theorem yNs_cg {b b' : Int → Int} {xs : List Int} (h : yAg b b') (ho : yOkv b xs) {v : Int} (hv : 0 ≤ v ∧ v < 4096) : yNs b xs v = yNs b' xs v := by
  unfold yNs
  rw [yFm_cg h ho hv]
theorem yMl_cg {m : Nat → Int → Int} {q : Nat} {b b' : Int → Int} {xs : List Int} (h : yAg b b') (ho : yOkv b xs) (hm : yMl m q b xs) : yMl m q b' xs := ⟨hm.1, fun i hi => by
  obtain ⟨o1, -⟩ := yOkv_get ho hi
  rw [← h (xs.getD i 0 / 64) (by omega) (by omega)]
  exact hm.2 i hi⟩
/-- a row of moves with its names -/
def yNm2 (m : Nat → Int → Int) (q : Nat) (b : Int → Int) (xs : List Int) : Prop := yMl m q b xs ∧ ∀ i : Nat, i < xs.length → m (q + 3) i = yFm b xs (xs.getD i 0) 10
theorem yNm2_fr {m m' : Nat → Int → Int} {q : Nat} {b : Int → Int} {xs : List Int} (h : yNm2 m q b xs) {lo hi : Nat} (hf : yFr lo hi m m') (d : q + 3 < lo ∨ hi < q) : yNm2 m' q b xs := by
  unfold yNm2 yMl
  rw [hf q (by omega), hf (q + 1) (by omega), hf (q + 2) (by omega), hf (q + 3) (by omega)]
  exact h
theorem yEnc_ok {v : Int} (h : -6 ≤ v ∧ v ≤ 6) : yEnc v % 8 ≠ 7 ∧ yEnc v ≠ 8 := by
  unfold yEnc
  split <;> omega
theorem yMv_ok {m : Nat → Int → Int} {e : Nat} {c : Int} (hB : zOkC (m e)) (hc : c = 0 ∨ c = 8) : yOkv (yB (m e)) (yMv (yB (m e)) c) := yOkv_mv (zOkB_of hB) (fun s h1 h2 => (yEnc_ok (hB s h1 h2)).1) (fun s h1 h2 => (yEnc_ok (hB s h1 h2)).2) hc
section ZR
variable {L : Nat} {m : Nat → Int → Int} (D : Nat)
/-- listInto with the saying that says nothing -/
theorem zk_75a {a e q R z : Nat} (h : yBd L a e) (hg : yGd m a e) (hq : yLs L q R) (hz : zSH L z = (4, 0)) (da : a < q ∨ q + 3 < a) (de : e < q ∨ q + 3 < e) (dz : z < q ∨ q + 3 < z) (hR : 512 ≤ R) (hz0 : m z 0 = 0) (hz1 : m z 1 = 0) (hz2 : m z 2 = 1) : ∃ m', zmD zP (D + 4) 75 [zr a, zr q, zr z] (zW L m) = some (none, zW L m') ∧ yFr q (q + 3) m m' ∧ yMl m' q (yB (m e)) (yMv (yB (m e)) (8 * m a 1)) ∧ yMf m' q (yMv (yB (m e)) (8 * m a 1)).length := by
  have hc : 8 * m a 1 = 0 ∨ 8 * m a 1 = 8 := by have := hg.2.2.1; omega
  obtain ⟨m', e1, e2, e3, e4⟩ := zk_75 (L := L) D h hg hq hz da de dz
  have hall : (yMv (yB (m e)) (8 * m a 1)).filter (yFc m z (yB (m e))) = yMv (yB (m e)) (8 * m a 1) := by
    refine List.filter_eq_self.mpr fun v _ => ?_
    unfold yFc
    rw [decide_eq_true_iff, yT_pos]
    unfold yFitC
    rw [hz0, hz1, hz2]
    refine ⟨by decide, ?_⟩
    unfold yKey yDg
    simp only [show z_and 0 16 = 0 from by decide, show z_and 0 8 = 0 from by decide, show z_and 0 4 = 0 from by decide, show z_and 0 2 = 0 from by decide, show z_and 0 1 = 0 from by decide, if_true]
  have hlen := yMv_le (b := yB (m e)) hc
  rw [hall, List.take_of_length_le (by omega)] at e3 e4
  exact ⟨m', e1, e2, e3, e4⟩
end ZR
