/-! disputes of the class: settle, readings, reading -/
/-- the first reading's move at part k -/
def yFs (RS : List (List Int)) (k : Nat) : Int := match RS with
  | [] => -1
  | s :: _ => s.getD k (-1)
noncomputable def yBad (P : List (List Int)) (b : Int → Int) (c : Int) : Int := yT (3 < P.length ∨ yMany P b c)
noncomputable def yRdV (P : List (List Int)) (b : Int → Int) (c : Int) : Int := if yBad P b c = 1 then -4 else (yRdg P b c).length
noncomputable def yRdW (P : List (List Int)) (b : Int → Int) (c k a : Int) : Int := if (0 ≤ k ∧ k ≤ 2) ∧ (0 ≤ a ∧ a ≤ 1) then (if yBad P b c = 1 then -4 else if a = 0 then yFs (yRdg P b c) k.toNat else yNb (yMks 0 (yRdg P b c) k.toNat) 4096) else -2
section ZR
variable {L : Nat} {m : Nat → Int → Int} (D : Nat) {w : Int → List Int} {b : Int → Int} {c n e : Int} {W F : Int → Int} {Z : Int → List Int}
theorem zk_167 : ∃ m', zmD zP (D + 1) 167 [zr 88, zl 0] (zW L m) = some (none, zW L m') ∧ yFq (fun x _ => x = 88) m m' ∧ ∀ j : Int, 0 ≤ j → j < 192 → m' 88 j = 0 := by
  rw [zen_167, zb_167_0, zlen_88, zbs]
  suffices go : ∀ (k i : Nat) (M : Nat → Int → Int), i + k = 192 → yFq (fun x _ => x = 88) m M → (∀ j : Int, 0 ≤ j → j < i → M 88 j = 0) → ∃ m', zmE (zmD zP D) zc_167 (6, [some (zr 88), some (zl 0), none, some (zi i), some (zi 192)], [], zW L M) = some (none, zW L m') ∧ yFq (fun x _ => x = 88) m m' ∧ ∀ j : Int, 0 ≤ j → j < 192 → m' 88 j = 0 from go 192 0 m (by omega) yFq_rfl fun j h1 h2 => by omega
  intro k
  induction k with
  | zero =>
    intro i M hi f1 f2
    rw [zb_167_6, if_neg (by omega)]
    exact ⟨M, rfl, f1, fun j j1 j2 => f2 j j1 (by omega)⟩
  | succ k ih =>
    intro i M hi f1 f2
    rw [zb_167_6, if_pos (by omega), zsi_88 (by omega) (by omega), zbs, w32_of (by omega) (by omega)]
    refine ih (i + 1) _ (by omega) (yFq_up f1 rfl) fun j j1 j2 => ?_
    by_cases g : j = i
    · rw [g, zup_self]
    · rw [zup_ne2 g]
      exact f2 j j1 (by omega)
theorem yOn_tk {a e a0 e0 : Nat} (h : yOn m a0 e0 b c) (hn : a ≠ e ∧ a0 ≠ e0 ∧ a0 ≠ a ∧ a0 ≠ e ∧ e0 ≠ a ∧ e0 ≠ e) (ha : a < 1000 ∧ e < 1000) : yOn (yTk m a e a0 e0) a e b c ∧ ∀ x, x ≠ a → x ≠ e → yTk m a e a0 e0 x = m x := by
  obtain ⟨k1, k2, k3, k4⟩ := yTk_gd (a := a) (e := e) h.1 hn ha
  refine ⟨⟨k1, fun s s1 s2 => ?_, by rw [k3]; exact h.2.2⟩, k4⟩
  rw [← h.2.1 s s1 s2]
  unfold yB
  rw [← k2 s s1 s2]
theorem zk_165 {P : List (List Int)} (hg : yGm m P) (on : yOn m 8 9 b c) : ∃ m', zmD zP (D + 10) 165 [zr 64, zr 42, zr 8] (zW L m) = some (some (zi (if yBad P b c = 1 then 0 else 1)), zW L m') ∧ yFr 64 88 m m' ∧ (yBad P b c ≠ 1 → m' 64 6 = (yRdg P b c).length ∧ ∀ k : Nat, k < 3 → m' 86 k = yFs (yRdg P b c) k ∧ m' 87 k = yNb (yMks 0 (yRdg P b c) k) 4096) := by
  rw [zen_165, zb_165_0, zcv_42, zen_166, zb_166_0, zgi_42, zbs, zbs, zmG_v, zb_165_4, hg.1]
  by_cases g : 3 < P.length
  · have hb : yBad P b c = 1 := yT_pos (.inl g)
    rw [if_pos (by omega), if_pos hb]
    exact ⟨m, rfl, yFr_rfl, fun q => absurd hb q⟩
  · obtain ⟨M0, r1, r2, r3⟩ := zk_167 (L := L) (m := m) (D + 8)
    have e1 : zmD zP (D + 9) 167 [zr 88, zl 0] (zW L m) = some (none, zW L M0) := r1
    rw [if_neg (by omega), zgr_64_5, zbs, e1, zbs, zmG_n, zb_165_18, zpz_64 (.inl rfl), zbs, zpz_64 (.inl rfl), zbs]
    have F0 : yFr 64 88 m (zup (zup M0 64 7 0) 64 8 0) := fun x hx => funext fun j => by
      rw [zup_ne (by omega), zup_ne (by omega)]
      exact r2 x j (by omega)
    have loop : ∀ (k i : Nat) (M : Nat → Int → Int), i + k = 3 → yFr 64 88 m M → M 64 7 = 0 → M 64 8 = 0 → (∀ j : Int, 0 ≤ j → j < 192 → M 88 j = 0) → (∀ j : Int, 0 ≤ j → j < i → M 85 j = -1 ∧ M 86 j = -1 ∧ M 87 j = 0) → ∃ m', zmE (zmD zP (D+9)) zc_165 (30, [some (zr 64), some (zr 42), some (zr 8), some (zi i)], [], zW L M) = zmE (zmD zP (D+9)) zc_165 (30, [some (zr 64), some (zr 42), some (zr 8), some (zi 3)], [], zW L m') ∧ yFr 64 88 m m' ∧ m' 64 7 = 0 ∧ m' 64 8 = 0 ∧ (∀ j : Int, 0 ≤ j → j < 192 → m' 88 j = 0) ∧ ∀ j : Int, 0 ≤ j → j < 3 → m' 85 j = -1 ∧ m' 86 j = -1 ∧ m' 87 j = 0 := fun k => by
      induction k with
      | zero =>
        intro i M hi f1 f2 f3 f4 f5
        rw [show i = 3 by omega] at f5 ⊢
        exact ⟨M, rfl, f1, f2, f3, f4, fun j j1 j2 => f5 j j1 (by omega)⟩
      | succ k ih =>
        intro i M hi f1 f2 f3 f4 f5
        rw [zb_165_30, if_pos (by omega), zgr_64_2, zbs, zsi_85 (by omega) (by omega), zbs, zgr_64_3, zbs, zsi_86 (by omega) (by omega), zbs, zgr_64_4, zbs, zsi_87 (by omega) (by omega), zbs, w32_of (by omega) (by omega)]
        have kx : ∀ x, x ≠ 85 → x ≠ 86 → x ≠ 87 → zup (zup (zup M 85 i (-1)) 86 i (-1)) 87 i 0 x = M x := fun x x1 x2 x3 => funext fun j => by rw [zup_ne x3, zup_ne x2, zup_ne x1]
        refine ih (i + 1) _ (by omega) (fun x hx => (kx x (by omega) (by omega) (by omega)).trans (f1 x hx)) (by rw [kx 64 (by decide) (by decide) (by decide)]; exact f2) (by rw [kx 64 (by decide) (by decide) (by decide)]; exact f3) (by rw [kx 88 (by decide) (by decide) (by decide)]; exact f4) fun j j1 j2 => ?_
        by_cases g2 : j = i
        · subst g2
          rw [zup_ne (by decide), zup_ne (by decide), zup_self, zup_ne (by decide), zup_self, zup_self]
          exact ⟨rfl, rfl, rfl⟩
        · obtain ⟨a1, a2, a3⟩ := f5 j j1 (by omega)
          refine ⟨?_, ?_, ?_⟩
          · rw [zup_ne (by decide), zup_ne (by decide), zup_ne2 g2, a1]
          · rw [zup_ne (by decide), zup_ne2 g2, zup_ne (by decide), a2]
          · rw [zup_ne2 g2, zup_ne (by decide), zup_ne (by decide), a3]
    obtain ⟨M2, s1, s2, s3, s4, s5, s6⟩ := loop 3 0 _ (by omega) F0 (by rw [zup_ne2 (by decide), zup_self]) zup_self (fun j j1 j2 => by rw [zup_ne (by decide), zup_ne (by decide)]; exact r3 j j1 j2) fun j j1 j2 => by omega
    have s1' : zmE (zmD zP (D+9)) zc_165 (30, [some (zr 64), some (zr 42), some (zr 8), some (zi 0)], [], zW L (zup (zup M0 64 7 0) 64 8 0)) = _ := s1
    have on2 : yOn M2 8 9 b c := yOn_c on (s2 8 (.inl (by decide))) (s2 9 (.inl (by decide))) fun x hx => s2 x (.inr (by omega))
    obtain ⟨t1, t2⟩ := yOn_tk (a := 66) (e := 67) on2 (by decide) (by decide)
    rw [s1', zb_165_30, if_neg (c := (3 : Int) < 3) (by decide), zgr_64_0, zbs, zar_65_0, zbs, zcv_66, zk_136 (D + 8) (yBd_6 (L := L) (k := 0) (by decide)) yBd_8 (by decide) (by decide), zbs, zmG_n, zb_165_72]
    have ex : yTk M2 (66 + 2 * 0) (67 + 2 * 0) 8 9 = yTk M2 66 67 8 9 := rfl
    rw [ex]
    generalize yTk M2 66 67 8 9 = M3 at *
    have F3 : yFr 64 88 m M3 := fun x hx => (t2 x (by omega) (by omega)).trans (s2 x hx)
    have rz : ∀ k : Nat, k < 3 → ∀ s : Int, 0 ≤ s → s < 64 → yRow (M3 88 (64 * k + s)) (fun t => (fun (_ : Nat) (_ : Int) => False) k (64 * s + t)) := fun k hk s s1 s2 => by
      rw [t2 88 (by decide) (by decide), s5 _ (by omega) (by omega)]
      exact yRow_zero fun t ht q => q
    have nz : ∀ k : Nat, k < 3 → M3 87 k = yNb ((fun (_ : Nat) (_ : Int) => False) k) 4096 := fun k hk => by
      rw [t2 87 (by decide) (by decide), (s6 k (by omega) (by omega)).2.2]
      have : ∀ n : Nat, yNb (fun _ => False) n = 0 := fun n => by
        induction n with
        | zero => rfl
        | succ n ih => rw [yNb, ih, yT_neg (fun q => q)]; rfl
      exact (this 4096).symm
    obtain ⟨M4, x, u1, u2, u3, u4⟩ := zk_168 (L := L) (D + 3 - P.length) (by omega) P 0 M3 [] none (fun _ _ => False) b c rfl (Nat.zero_le _) (yGm_fr hg F3 (by decide)) (by rw [t2 64 (by decide) (by decide), s4]) (fun _ => t1) ⟨rfl, fun j hj => absurd hj (Nat.not_lt_zero j), fun j _ hj => by rw [t2 85 (by decide) (by decide)]; exact (s6 j (by omega) (by omega)).1⟩ ⟨by rw [t2 64 (by decide) (by decide), s3], fun k hk => by rw [t2 86 (by decide) (by decide)]; exact (s6 k (by omega) (by omega)).2.1⟩ ⟨rz, nz⟩
    rw [show D + 3 - P.length + 6 + P.length = D + 9 by omega] at u1
    have u1' : zmD zP (D + 9) 168 [zr 64, zr 42, zi 0] (zW L M3) = _ := u1
    have F5 : yFr 64 88 m (zup M4 64 6 x) := fun y hy => funext fun j => by
      rw [zup_ne (by omega), u2 y j (by unfold yPx; omega), F3 y hy]
    rw [u1', zbs, zmG_v, zb_165_79, zpi_64, zbs, zgi_64, zbs, zup_ne2 (by decide)]
    by_cases gm : yMany P b c
    · have hb : yBad P b c = 1 := yT_pos (.inr gm)
      rw [(u3 gm).1, if_neg (c := (1 : Int) = 0) (by decide), if_pos hb]
      exact ⟨_, rfl, F5, fun q => absurd hb q⟩
    · have hb : yBad P b c ≠ 1 := fun q => by
        have : ¬ (3 < P.length ∨ yMany P b c) := fun k => k.elim g gm
        have := yT_neg this
        unfold yBad at q
        omega
      obtain ⟨q1, q2, q3, q4⟩ := u4 gm
      rw [q1, if_pos rfl, if_neg hb]
      refine ⟨_, rfl, F5, fun _ => ⟨by rw [zup_self, q2], fun k hk => ⟨?_, ?_⟩⟩⟩
      · rw [zup_ne (by decide)]
        generalize yRdg P b c = R at *
        cases R with
        | nil => exact q3.2 k hk
        | cons s R => exact q3.2 k hk
      · rw [zup_ne (by decide), q4.2 k hk]
        exact yNb_cg 4096 fun v _ _ => ⟨fun q => q.resolve_left id, .inr⟩
theorem yCs_ds (h : yCs m w b c n e W F Z) {m' : Nat → Int → Int} (hf : yFr 42 88 m m') : yFr 0 97 m m' ∧ yCs m' w b c n e W F Z := ⟨yFr_wd hf (by decide) (by decide), yCs_fr (P := fun x _ => 42 ≤ x ∧ x ≤ 88) h (yFq_fr hf fun x j x1 x2 => ⟨x1, x2⟩) fun x j hx q => by unfold yHold at hx; omega⟩
theorem yGm_of (h : yCs m w b c n e W F Z) : ∃ m', zmD zP (D + 8) 155 [zr 42, zr 6] (zW L m) = some (none, zW L m') ∧ yFr 42 63 m m' ∧ yGm m' (yGa (w 2)) := by
  obtain ⟨M, r1, r2, r3, r4⟩ := zk_155 (L := L) D h.1.2.2 h.2.2.2.2.1.1
  exact ⟨M, r1, yFr_of r2 fun x j q => by unfold yPs at q; omega, r3, yGa_le, r4⟩
theorem yk_164 (h : yCs m w b c n e W F Z) : ∃ m', zmD zP (D + 11) 164 [zr 0] (zW L m) = some (some (zi (yRdV (yGa (w 2)) b c)), zW L m') ∧ yFr 0 97 m m' ∧ yCs m' w b c n e W F Z := by
  obtain ⟨M, r1, r2, r3⟩ := yGm_of (L := L) (D + 2) h
  have on : yOn M 8 9 b c := yOn_c ⟨h.2.1.1, h.2.1.2.1, h.2.1.2.2⟩ (r2 8 (.inl (by decide))) (r2 9 (.inl (by decide))) fun x hx => r2 x (.inr (by omega))
  obtain ⟨M2, s1, s2, s3⟩ := zk_165 (L := L) D r3 on
  obtain ⟨f1, f2⟩ := yCs_ds h (yFr_tr (yFr_wd r2 (by decide) (by decide)) (yFr_wd s2 (by decide) (by decide)))
  rw [zen_164, zb_164_0, zgr_0_10, zbs, zgr_0_0, zbs, zar_1_2, zbs, zcv_42, r1, zbs, zmG_n, zb_164_13, zgr_0_11, zbs, zgr_0_10, zbs, zgr_0_1, zbs, zcv_64, s1, zbs, zmG_v, zb_164_28]
  unfold yRdV
  by_cases g : yBad (yGa (w 2)) b c = 1
  · rw [if_pos g, if_pos g, if_pos rfl]
    exact ⟨M2, rfl, f1, f2⟩
  · rw [if_neg g, if_neg g, if_neg (c := (1 : Int) = 0) (by decide), zgr_0_11, zbs, zcv_64, zen_172, zb_172_0, zgi_64, zbs, (s3 g).1, zbs, zmG_v, zb_164_38]
    exact ⟨M2, rfl, f1, f2⟩
theorem yk_173 (h : yCs m w b c n e W F Z) (k a : Int) : ∃ m', zmD zP (D + 11) 173 [zr 0, zi k, zi a] (zW L m) = some (some (zi (yRdW (yGa (w 2)) b c k a)), zW L m') ∧ yFr 0 97 m m' ∧ yCs m' w b c n e W F Z := by
  unfold yRdW
  rw [zen_173, zb_173_0]
  by_cases g : (0 ≤ k ∧ k ≤ 2) ∧ (0 ≤ a ∧ a ≤ 1)
  · obtain ⟨M, r1, r2, r3⟩ := yGm_of (L := L) (D + 2) h
    have on : yOn M 8 9 b c := yOn_c ⟨h.2.1.1, h.2.1.2.1, h.2.1.2.2⟩ (r2 8 (.inl (by decide))) (r2 9 (.inl (by decide))) fun x hx => r2 x (.inr (by omega))
    obtain ⟨M2, s1, s2, s3⟩ := zk_165 (L := L) D r3 on
    obtain ⟨f1, f2⟩ := yCs_ds h (yFr_tr (yFr_wd r2 (by decide) (by decide)) (yFr_wd s2 (by decide) (by decide)))
    rw [if_pos g, if_neg (by omega), if_pos (by omega), if_neg (by omega), if_neg (by omega), zgr_0_10, zbs, zgr_0_0, zbs, zar_1_2, zbs, zcv_42, r1, zbs, zmG_n, zb_173_34, zgr_0_11, zbs, zgr_0_10, zbs, zgr_0_1, zbs, zcv_64, s1, zbs, zmG_v, zb_173_49]
    by_cases g1 : yBad (yGa (w 2)) b c = 1
    · rw [if_pos g1, if_pos g1, if_pos rfl]
      exact ⟨M2, rfl, f1, f2⟩
    · obtain ⟨q1, q2⟩ := (s3 g1).2 k.toNat (by omega)
      rw [show ((k.toNat : Nat) : Int) = k by omega] at q1 q2
      rw [if_neg g1, if_neg g1, if_neg (c := (1 : Int) = 0) (by decide)]
      by_cases g2 : a = 0
      · rw [if_pos g2, if_pos g2, zgr_0_11, zbs, zcv_64, zen_174, zb_174_0, if_neg (by omega), if_pos (by omega), zgr_64_3, zbs, zai_86 (by omega) (by omega), zbs, q1, zbs, zmG_v, zb_173_67, zb_173_78]
        exact ⟨M2, rfl, f1, f2⟩
      · rw [if_neg g2, if_neg g2, zgr_0_11, zbs, zcv_64, zen_175, zb_175_0, if_neg (by omega), if_pos (by omega), zgr_64_4, zbs, zai_87 (by omega) (by omega), zbs, q2, zbs, zmG_v, zb_173_78]
        exact ⟨M2, rfl, f1, f2⟩
  · have stay : ∀ {x : Option zmR}, x = some (some (zi (-2)), zW L m) → ∃ m', x = some (some (zi (-2)), zW L m') ∧ yFr 0 97 m m' ∧ yCs m' w b c n e W F Z := fun q => ⟨m, q, yFr_rfl, h⟩
    rw [if_neg (c := (0 ≤ k ∧ k ≤ 2) ∧ (0 ≤ a ∧ a ≤ 1)) g]
    apply stay
    by_cases g1 : k < 0
    · rw [if_pos g1]
    · rw [if_neg g1]
      by_cases g2 : k < 3
      · rw [if_pos g2]
        by_cases g3 : a < 0
        · rw [if_pos g3]
        · rw [if_neg g3, if_pos (by omega)]
      · rw [if_neg g2]
end ZR
