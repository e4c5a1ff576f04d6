/-! the class's games: playOut and what is told of it -/
def yPo (x : Nat) (j : Int) : Prop := x = 42 ∧ j = 6 ∨ 57 ≤ x ∧ x ≤ 63
section ZR
variable {L : Nat} {m : Nat → Int → Int} (D : Nat) {w : Int → List Int} {b : Int → Int} {c n e : Int} {W F : Int → Int} {Z : Int → List Int}
theorem zk_154g {N : Nat} (hN : N ≤ 12) : ∀ (qs : List (List Int)) (i : Nat) (M : Nat → Int → Int) (b : Int → Int) (c : Int), i + qs.length = N → M 42 5 = N → M 42 6 = i → yGd2 M 58 59 → yAg (yB (M 59)) b → 8 * M 58 1 = c → (∀ k : Nat, k < qs.length → yPd M (i + k) (qs.getD k [])) → ∃ m', zmE (zmD zP (D+8)) zc_154 (20, [some (zr 42), some (zr 6), some (zr 8), some (zi i)], [], zW L M) = some (none, zW L m') ∧ yFq yPo M m' ∧ m' 42 6 = i + (yGo qs b c).length ∧ (∀ k : Nat, k < i → m' 57 k = M 57 k) ∧ ∀ k : Nat, k < (yGo qs b c).length → m' 57 ((i + k : Nat) : Int) = (yGo qs b c).getD k 0
  | [], i, M, b, c, hi, h5, h6, hg, hb, hc, hp => by
    rw [List.length_nil] at hi
    rw [zb_154_20, zgi_42, zbs, h5, if_neg (by omega)]
    exact ⟨M, rfl, yFq_rfl, by rw [h6]; show (i : Int) = i + ((0 : Nat) : Int); omega, fun k hk => rfl, fun k hk => absurd hk (Nat.not_lt_zero k)⟩
  | p :: qs, i, M, b, c, hi, h5, h6, hg, hb, hc, hp => by
    rw [List.length_cons] at hi
    obtain ⟨M1, r1, r2, r3, r4⟩ := zk_156 (L := L) (m := M) (p := p) (D + 3) h5 (i := i) (by omega) (by omega) (hp 0 (by rw [List.length_cons]; omega)) hg hb hc
    have F1 : yFq yPo M M1 := yFq_fr r2 fun x j x1 x2 => .inr ⟨by omega, by omega⟩
    rw [zb_154_20, zgi_42, zbs, h5, if_pos (by omega), zgr_42_3, zbs, zgr_42_4, zbs, zcv_42, r1, zbs, zmG_n, zb_154_41, zgr_42_4, zbs, zcv_60, zk_90 (D + 7) yLs_60, zbs, zmG_v, zb_154_48, r3]
    by_cases g : ((yMv b c).filter (yMean b p)).length = 1
    · obtain ⟨v, hv⟩ := List.length_eq_one_iff.mp g
      have hvm : v ∈ yMv b c := (List.mem_filter.mp (by rw [hv]; exact List.mem_singleton.mpr rfl : v ∈ (yMv b c).filter (yMean b p))).1
      obtain ⟨v1, v2⟩ := yMv_go hvm
      rw [hv] at r3 r4
      have r3' : M1 60 3 = 1 := r3
      have r4' : M1 61 0 = v := r4 0 (show 0 < 1 by decide)
      have gd1 : yGd2 M1 58 59 := yGd2_fr hg r2 (by decide) (by decide) (by decide)
      have e58 : M1 58 = M 58 := r2 58 (by decide)
      have e59 : M1 59 = M 59 := r2 59 (by decide)
      have hlen1 : ((([v].take 2).length : Nat) : Int) = 1 := rfl
      rw [hv, if_pos hlen1, zgr_42_2, zbs, zgr_42_4, zbs, zcv_60, zk_97 (D + 7) yLs_60 (by rw [r3']; decide), r3', if_pos (by decide), r4', zbs, zmG_v, zb_154_66, zsi_57 (by omega) (by omega), zbs, zgr_42_3, zbs, zgr_42_2, zbs, zai_57 (by omega) (by omega), zbs, zup_self]
      have gd2 : yGd2 (zup M1 57 i v) 58 59 := yGd2_fr gd1 (lo := 57) (hi := 57) (fun x hx => by funext j; rw [zup_ne (by omega)]) (by decide) (by decide) (by decide)
      have u58 : zup M1 57 i v 58 = M 58 := by
        rw [← e58]
        funext j
        rw [zup_ne (by decide)]
      have u59 : zup M1 57 i v 59 = M 59 := by
        rw [← e59]
        funext j
        rw [zup_ne (by decide)]
      have u57 : zup M1 57 i v 57 i = v := zup_self
      have u57b : ∀ k : Nat, k < i → zup M1 57 i v 57 k = M 57 k := fun k hk => by
        rw [zup_ne2 (by omega), r2 57 (by decide)]
      have hu42 : zup M1 57 i v 42 = M 42 := by
        rw [← r2 42 (by decide)]
        funext j
        rw [zup_ne (by decide)]
      have F2 : yFq yPo M (zup M1 57 i v) := yFq_up F1 (.inr ⟨by decide, by decide⟩)
      generalize zup M1 57 i v = M2 at *
      obtain ⟨k1, k2, k3, k4⟩ := yMake (L := L) (m := M2) yBd_58 gd2 (f := v / 64) (t := v % 64) ⟨by omega, by omega⟩ ⟨by omega, by omega⟩ v2
      rw [zcv_58, zk_108 (D + 6) yBd_58 v v1 gd2.2.2.1, zbs, zmG_n, zb_154_80]
      generalize zup (yMkC M2 58 59 (v / 64) (v % 64)) 58 1 (1 - M2 58 1) = M3 at *
      have F3 : yFq yPo M M3 := yFq_tr F2 fun x j hx => by
        rw [k4 x (fun q => hx (.inr (by omega))) (fun q => hx (.inr (by omega)))]
      have u42 : M2 42 = M 42 := hu42
      have k42 : M3 42 = M 42 := (k4 42 (by decide) (by decide)).trans u42
      rw [zgi_42, zbs, k42, h6, w32_of (z := (i : Int) + 1) (by omega) (by omega), zpi_42, zbs]
      have F4 : yFq yPo M (zup M3 42 6 (i + 1)) := yFq_up F3 (.inl ⟨rfl, rfl⟩)
      have kx : ∀ x, x ≠ 42 → zup M3 42 6 (i + 1) x = M3 x := fun x hx => by
        funext j
        rw [zup_ne hx]
      obtain ⟨m', s1, s2, s3, s4, s5⟩ := zk_154g hN qs (i + 1) (zup M3 42 6 (i + 1)) (yPut b (v / 64) (v % 64)) (8 - c) (by omega) ((zup_ne2 (by decide)).trans (by rw [k42, h5])) (zup_self.trans (by omega)) (yGd2_c k1 (kx 58 (by decide)) (kx 59 (by decide)) fun x hx => kx x (by omega)) (by
        rw [kx 59 (by decide)]
        refine yAg_tr k2 (yPut_cg ?_ ⟨by omega, by omega⟩)
        rw [u59]
        exact hb) (by
        rw [kx 58 (by decide), k3, u58]
        omega) (fun k hk => by
        have := hp (k + 1) (by rw [List.length_cons]; omega)
        have q : ∀ x j, ¬ yPo x j → zup M3 42 6 (i + 1) x j = M x j := F4
        unfold yPd at *
        rw [show i + (k + 1) = i + 1 + k by omega] at this
        rw [q _ 0 (by unfold yPo; omega), q _ 1 (by unfold yPo; omega), q _ 2 (by unfold yPo; omega), q 56 _ (by unfold yPo; omega)]
        exact this)
      have c57 : ∀ j, zup M3 42 6 (i + 1) 57 j = M2 57 j := fun j => by rw [kx 57 (by decide), k4 57 (by decide) (by decide)]
      rw [yGo_one hv]
      refine ⟨m', s1, yFq_tr F4 s2, by rw [s3, List.length_cons]; omega, fun k hk => ?_, fun k hk => ?_⟩
      · rw [s4 k (by omega), c57, u57b k hk]
      · cases k with
        | zero =>
          rw [Nat.add_zero, s4 i (by omega), c57, u57]
          rfl
        | succ k =>
          rw [show i + (k + 1) = i + 1 + k by omega]
          exact s5 k (Nat.lt_of_succ_lt_succ hk)
    · rw [if_neg (by rw [List.length_take]; omega), yGo_no g]
      exact ⟨M1, rfl, F1, by rw [r2 42 (by decide), h6]; show (i : Int) = i + ((0 : Nat) : Int); omega, fun k hk => by rw [r2 57 (by decide)], fun k hk => absurd hk (Nat.not_lt_zero k)⟩
theorem zk_154 (h : yCs m w b c n e W F Z) : ∃ m', zmD zP (D + 9) 154 [zr 42, zr 6, zr 8] (zW L m) = some (none, zW L m') ∧ yFr 42 63 m m' ∧ (m' 42 5 = (yGa (w 2)).length ∧ m' 42 6 = (yGo (yGa (w 2)) b c).length) ∧ (∀ k : Nat, k < (yGa (w 2)).length → m' 56 k = ((yGa (w 2)).getD k []).length) ∧ ∀ k : Nat, k < (yGo (yGa (w 2)) b c).length → m' 57 k = (yGo (yGa (w 2)) b c).getD k 0 := by
  obtain ⟨M, r1, r2, r3, r4⟩ := zk_155 (L := L) D h.1.2.2 h.2.2.2.2.1.1
  have F1 : yFr 42 63 m M := yFr_of r2 fun x j q => by unfold yPs at q; omega
  have gd : yGd2 M 8 9 := yGd2_fr h.2.1.1 F1 (by decide) (by decide) (by decide)
  obtain ⟨k1, k2, k3, k4⟩ := yTk_gd (a := 58) (e := 59) gd (by decide) (by decide)
  have e8 : M 8 = m 8 := F1 8 (by decide)
  have e9 : M 9 = m 9 := F1 9 (by decide)
  rw [zen_154, zb_154_0, zcv_42, r1, zbs, zmG_n, zb_154_5, zgr_42_3, zbs, zcv_58, zk_136 (D + 7) yBd_58 yBd_8 (by decide) (by decide), zbs, zmG_n, zb_154_13, zpi_42, zbs]
  generalize yTk M 58 59 8 9 = M2 at *
  have kx : ∀ x, x ≠ 42 → zup M2 42 6 0 x = M2 x := fun x hx => by
    funext j
    rw [zup_ne hx]
  have ky : ∀ x, x ≠ 42 → x ≠ 58 → x ≠ 59 → zup M2 42 6 0 x = M x := fun x h1 h2 h3 => (kx x h1).trans (k4 x h2 h3)
  obtain ⟨m', s1, s2, s3, -, s5⟩ := zk_154g (L := L) D (yGa_le (w := w 2)) (yGa (w 2)) 0 (zup M2 42 6 0) b c (by omega) ((zup_ne2 (by decide)).trans (by rw [k4 42 (by decide) (by decide), r3])) zup_self (yGd2_c k1 (kx 58 (by decide)) (kx 59 (by decide)) fun x hx => kx x (by omega)) (by
    rw [kx 59 (by decide)]
    intro s s1 s2
    rw [← h.2.1.2.1 s s1 s2]
    unfold yB
    rw [← k2 s s1 s2, e9]) (by rw [kx 58 (by decide), k3, e8, h.2.1.2.2]) (fun k hk => by
    have := r4 k hk
    have hk2 := yGa_le (w := w 2)
    unfold yPd at *
    rw [Nat.zero_add, ky _ (by omega) (by omega) (by omega), ky _ (by decide) (by decide) (by decide)]
    exact this)
  have F2 : yFr 42 63 m (zup M2 42 6 0) := fun x hx => (ky x (by omega) (by omega) (by omega)).trans (F1 x hx)
  refine ⟨m', s1, yFr_tr F2 (yFr_of s2 fun x j q => by unfold yPo at q; omega), ⟨?_, by rw [s3]; omega⟩, fun k hk => ?_, fun k hk => ?_⟩
  · rw [s2 42 5 (by unfold yPo; omega), zup_ne2 (by decide), k4 42 (by decide) (by decide), r3]
  · rw [s2 56 k (by unfold yPo; omega), ky 56 (by decide) (by decide) (by decide)]
    exact (r4 k hk).2
  · have := s5 k hk
    rw [Nat.zero_add] at this
    exact this
theorem yCs_ga (h : yCs m w b c n e W F Z) {m' : Nat → Int → Int} (hf : yFr 42 63 m m') : yFr 0 97 m m' ∧ yCs m' w b c n e W F Z := ⟨yFr_wd hf (by decide) (by decide), yCs_fr (P := fun x _ => 42 ≤ x ∧ x ≤ 63) h (yFq_fr hf fun x j x1 x2 => ⟨x1, x2⟩) fun x j q q2 => by unfold yHold at q; omega⟩
/-- the signs spent -/
def ySp : List (List Int) → Nat → Int
  | _, 0 => 0
  | [], _ + 1 => 0
  | p :: ps, k + 1 => p.length + ySp ps k
theorem ySp_s : ∀ (ps : List (List Int)) (k : Nat), k < ps.length → ySp ps (k + 1) = ySp ps k + (ps.getD k []).length
  | [], k, h => absurd h (Nat.not_lt_zero k)
  | p :: ps, 0, h => by
    rw [ySp]
    cases ps <;> (unfold ySp; show (p.length : Int) + 0 = 0 + p.length; omega)
  | p :: ps, k + 1, h => by
    rw [ySp, ySp_s ps k (Nat.lt_of_succ_lt_succ h)]
    show _ = (p.length : Int) + ySp ps k + (ps.getD k []).length
    omega
theorem yPcs_sum : ∀ w : List Int, ∀ k : Nat, k ≤ (yPcs w).length → 0 ≤ ySp (yPcs w) k ∧ ySp (yPcs w) k ≤ w.length
  | [], 0, h => by decide
  | [], 1, h => by decide
  | [], k + 2, h => by
    have : k + 2 ≤ 1 := h
    omega
  | b :: w, 0, h => by
    have : ySp (yPcs (b :: w)) 0 = 0 := by cases yPcs (b :: w) <;> rfl
    rw [this]
    omega
  | b :: w, k + 1, h => by
    rw [List.length_cons]
    rw [yPcs] at h ⊢
    by_cases g : b = 59
    · rw [if_pos g] at h ⊢
      have := yPcs_sum w k (Nat.le_of_succ_le_succ h)
      rw [ySp, List.length_nil]
      omega
    · rw [if_neg g] at h ⊢
      have ih := yPcs_sum w (k + 1)
      cases hw : yPcs w with
      | nil => exact absurd hw (yPcs_ne w)
      | cons p ps =>
        rw [hw] at h ih
        have := ih h
        rw [ySp] at this
        show 0 ≤ ySp ((b :: p) :: ps) (k + 1) ∧ ySp ((b :: p) :: ps) (k + 1) ≤ ((w.length + 1 : Nat) : Int)
        rw [ySp, List.length_cons]
        omega
end ZR
