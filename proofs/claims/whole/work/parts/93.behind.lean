/-! foresight: behind a move, the answer to a reply -/
/-- the first place with the least number -/
def yFp (f : Nat → Int) : Nat → Int
  | 0 => -1
  | n + 1 => if yFp f n = -1 ∨ f n < f (yFp f n).toNat then n else yFp f n
theorem yFp_few {f : Nat → Int} : ∀ n : Nat, yFew n f (yFp f n)
  | 0 => .inl ⟨rfl, rfl⟩
  | n + 1 => by
    rw [yFp]
    rcases yFp_few (f := f) n with ⟨h1, h2⟩ | ⟨i, h1, h2, h3⟩
    · rw [if_pos (.inl h2)]
      exact .inr ⟨n, rfl, Nat.lt_succ_self n, fun j hj => by
        have : j = n := by omega
        rw [this]
        exact ⟨Int.le_refl _, fun h => absurd h (Nat.lt_irrefl n)⟩⟩
    · rw [h1, Int.toNat_natCast]
      by_cases g : f n < f i
      · rw [if_pos (.inr g)]
        refine .inr ⟨n, rfl, Nat.lt_succ_self n, fun j hj => ?_⟩
        by_cases hj2 : j = n
        · rw [hj2]
          exact ⟨Int.le_refl _, fun h => absurd h (Nat.lt_irrefl n)⟩
        · have := h3 j (by omega)
          omega
      · rw [if_neg (by omega)]
        refine .inr ⟨i, rfl, by omega, fun j hj => ?_⟩
        by_cases hj2 : j = n
        · rw [hj2]
          omega
        · exact h3 j (by omega)
theorem yFp_lt {f : Nat → Int} {n : Nat} : n = 0 ∧ yFp f n = -1 ∨ ∃ i : Nat, yFp f n = i ∧ i < n := by
  rcases yFp_few (f := f) n with ⟨h1, h2⟩ | ⟨i, h1, h2, h3⟩
  · exact .inl ⟨h1, h2⟩
  · exact .inr ⟨i, h1, h2⟩
/-- the answer on a board, and how many signs it has -/
def yAp (b : Int → Int) (xs : List Int) : Int := yFp (fun i => yNs b xs (xs.getD i 0)) xs.length
def yAm (b : Int → Int) (xs : List Int) : Int := if yAp b xs = -1 then -1 else xs.getD (yAp b xs).toNat 0
def yAs (b : Int → Int) (xs : List Int) : Int := if yAp b xs = -1 then 0 else yNs b xs (xs.getD (yAp b xs).toNat 0)
theorem yAs_in {b : Int → Int} {xs : List Int} : 0 ≤ yAs b xs ∧ yAs b xs ≤ 4 := by
  unfold yAs
  split
  · omega
  · have := yNs_in (b := b) (xs := xs) (v := xs.getD (yAp b xs).toNat 0)
    omega
theorem yAs_pos {b : Int → Int} {xs : List Int} (h : yAm b xs ≠ -1) : 1 ≤ yAs b xs := by
  unfold yAm at h
  unfold yAs
  split
  · rename_i g
    rw [if_pos g] at h
    exact absurd rfl h
  · have := yNs_in (b := b) (xs := xs) (v := xs.getD (yAp b xs).toNat 0)
    omega
theorem yAm_n {b : Int → Int} {xs : List Int} (hx : ∀ v ∈ xs, 0 ≤ v) : yAm b xs = -1 ↔ yAp b xs = -1 := by
  unfold yAm
  rcases yFp_lt (f := fun i => yNs b xs (xs.getD i 0)) (n := xs.length) with ⟨-, h⟩ | ⟨i, h1, h2⟩
  · have h' : yAp b xs = -1 := h
    rw [if_pos h']
    exact ⟨fun _ => h', fun _ => rfl⟩
  · have h' : yAp b xs = i := h1
    have := hx _ (yMem_get.mpr ⟨i, h2, rfl⟩)
    rw [h', Int.toNat_natCast, if_neg (by omega)]
    omega
/-- the board behind a move -/
def yBv (b : Int → Int) (v : Int) : Int → Int := yPut b (v / 64) (v % 64)
theorem yPu_bv {b : Int → Int} {c v : Int} (h : yPu b c) (hv : v ∈ yMv b c) : yPu (yBv b v) (8 - c) := by
  obtain ⟨⟨v1, v2⟩, -⟩ := yMv_go hv
  exact yPu_put h ⟨by omega, by omega⟩
section ZR
variable {L : Nat} {m : Nat → Int → Int} (D : Nat) {w : Int → List Int} {b : Int → Int} {c n e : Int} {W F : Int → Int} {Z : Int → List Int}
theorem yBd_28 : yBd L 28 29 := ⟨zh_28, (zw_gr (L := L) (m := fun _ _ => 0) (congrArg Prod.fst zh_28)).symm.trans zgr_28_0, zh_29, by decide, by decide, by decide⟩
theorem yBd_30 : yBd L 30 31 := ⟨zh_30, (zw_gr (L := L) (m := fun _ _ => 0) (congrArg Prod.fst zh_30)).symm.trans zgr_30_0, zh_31, by decide, by decide, by decide⟩
theorem yLs_32 : yLs L 32 640 := ⟨⟨zh_32, (zw_gr (L := L) (m := fun _ _ => 0) (congrArg Prod.fst zh_32)).symm.trans zgr_32_0, (zw_gr (L := L) (m := fun _ _ => 0) (congrArg Prod.fst zh_32)).symm.trans zgr_32_1, (zw_gr (L := L) (m := fun _ _ => 0) (congrArg Prod.fst zh_32)).symm.trans zgr_32_2⟩, ⟨zh_33, zh_34, zh_35⟩, by decide, by decide⟩
theorem yLs_36 : yLs L 36 640 := ⟨⟨zh_36, (zw_gr (L := L) (m := fun _ _ => 0) (congrArg Prod.fst zh_36)).symm.trans zgr_36_0, (zw_gr (L := L) (m := fun _ _ => 0) (congrArg Prod.fst zh_36)).symm.trans zgr_36_1, (zw_gr (L := L) (m := fun _ _ => 0) (congrArg Prod.fst zh_36)).symm.trans zgr_36_2⟩, ⟨zh_37, zh_38, zh_39⟩, by decide, by decide⟩
theorem yNm_24 : yNm L 24 := ⟨zh_24, (zw_gr (L := L) (m := fun _ _ => 0) (congrArg Prod.fst zh_24)).symm.trans zgr_24_0, zh_25, by decide⟩
/-- a board as it stands on a board of the class -/
def yOn (m : Nat → Int → Int) (a e : Nat) (b : Int → Int) (c : Int) : Prop := yGd2 m a e ∧ yAg (yB (m e)) b ∧ 8 * m a 1 = c
theorem yOn_c {m m' : Nat → Int → Int} {a e : Nat} (h : yOn m a e b c) (h1 : m' a = m a) (h2 : m' e = m e) (h3 : ∀ x, 1000 ≤ x → m' x = m x) : yOn m' a e b c := by
  refine ⟨yGd2_c h.1 h1 h2 h3, ?_, ?_⟩
  · rw [h2]
    exact h.2.1
  · rw [h1]
    exact h.2.2
theorem yOn_pu {a e : Nat} (h : yOn m a e b c) : yPu b c := by
  obtain ⟨h1, h2, h3⟩ := h
  have ht := h1.2.2.1
  exact yPu_cg h2 (yPu_B h1.2.1 (by omega))
/-- a board taken over, and a move made on it -/
theorem yOn_go {a e a0 e0 : Nat} (hb : yBd L a e) (h : yOn m a0 e0 b c) (hn : a ≠ e ∧ a0 ≠ e0 ∧ a0 ≠ a ∧ a0 ≠ e ∧ e0 ≠ a ∧ e0 ≠ e) {v : Int} (hv : v ∈ yMv b c) : ∃ T M : Nat → Int → Int, yTk m a e a0 e0 = T ∧ (T a 1 = 0 ∨ T a 1 = 1) ∧ zup (yMkC T a e (v / 64) (v % 64)) a 1 (1 - T a 1) = M ∧ yOn M a e (yBv b v) (8 - c) ∧ ∀ x, x ≠ a → x ≠ e → M x = m x := by
  obtain ⟨⟨v1, v2⟩, v3⟩ := yMv_go hv
  have ha : a < 118 := hb.2.2.2.1
  have he : e < 118 := hb.2.2.2.2.1
  obtain ⟨k1, k2, k3, k4⟩ := yTk_gd (a := a) (e := e) h.1 hn ⟨by omega, by omega⟩
  obtain ⟨q1, q2, q3, q4⟩ := yMake (L := L) hb k1 (f := v / 64) (t := v % 64) ⟨by omega, by omega⟩ ⟨by omega, by omega⟩ v3
  refine ⟨_, _, rfl, k1.2.2.1, rfl, ⟨q1, yAg_tr q2 (yPut_cg (fun s s1 s2 => ?_) ⟨by omega, by omega⟩), ?_⟩, fun x x1 x2 => (q4 x x1 x2).trans (k4 x x1 x2)⟩
  · rw [← h.2.1 s s1 s2]
    unfold yB
    rw [← k2 s s1 s2]
  · have := h.2.2
    rw [q3, k3]
    omega
/-- the moves of a board listed and named -/
theorem yOn_list {a e q : Nat} (hb : yBd L a e) (h : yOn m a e b c) (hq : yLs L q 640) (da : a < q ∨ q + 3 < a) (de : e < q ∨ q + 3 < e) (dz : 27 < q ∨ q + 3 < 27) (dn : 24 + 1 < q ∨ q + 3 < 24) (hf : yFix m) : ∃ M1 : Nat → Int → Int, zmD zP (D + 4) 75 [zr a, zr q, zr 27] (zW L m) = some (none, zW L M1) ∧ yFr q (q + 3) m M1 ∧ ∀ o : Int, ∃ M2 : Nat → Int → Int, zmD zP (D + 4) 89 [zr 24, zr q, zi o] (zW L M1) = some (none, zW L M2) ∧ yFr q (q + 3) m M2 ∧ yMl M2 q b (yMv b c) ∧ ∃ f : Nat, yDone b (yMv b c) o f ∧ ∀ i : Nat, i < (yMv b c).length → M2 (q + 3) i = yFm b (yMv b c) ((yMv b c).getD i 0) f := by
  have hpu := yOn_pu h
  obtain ⟨b1, b2, b3⟩ := h
  have hq3 := hq.2.2.1
  obtain ⟨M1, r1, r2, r3, r4⟩ := zk_75a (L := L) (m := m) D hb (yGd2_1 b1) hq zh_27 da de dz (by decide) hf.2.2.1.1 hf.2.2.1.2.1 hf.2.2.1.2.2
  have hmv : yMv (yB (m e)) (8 * m a 1) = yMv b c := by rw [b3, yMv_cg b2]
  rw [hmv] at r3 r4
  have hok := yPu_ok hpu
  have r3' : yMl M1 q b (yMv b c) := yMl_cg b2 (yOkv_cg (yAg_sym b2) hok) r3
  have hlen := yMv_le (b := b) (c := c) hpu.2.2.2
  have hz25 : ∀ s : Int, 0 ≤ s → s < 3072 → M1 (24 + 1) s = 0 := fun s s1 s2 => by
    rw [r2 (24 + 1) (by omega)]
    exact hf.2.2.2.2 s s1 s2
  have hR := hq.2.2.2
  refine ⟨M1, r1, r2, fun o => ?_⟩
  obtain ⟨M2, t1, t2, f, t3, t4⟩ := zk_89 (L := L) (m := M1) D yNm_24 hq (yTab_fr b1.1 r2 (by omega)) r3' r4 (by omega) hok dn hz25 o
  refine ⟨M2, t1, fun x hx => (t2 x (by omega)).trans (r2 x hx), ?_, f, t3, t4⟩
  unfold yMl
  rw [t2 q (by omega), t2 (q + 1) (by omega), t2 (q + 2) (by omega)]
  exact r3'
end ZR
