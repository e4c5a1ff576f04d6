/-! disputes of the class: marks, steps, the list of a part -/
def yDq (m : Nat → Int → Int) (S : Nat → Int → Prop) : Prop := (∀ k : Nat, k < 3 → ∀ s : Int, 0 ≤ s → s < 64 → yRow (m 88 (64 * k + s)) (fun t => S k (64 * s + t))) ∧ ∀ k : Nat, k < 3 → m 87 k = yNb (S k) 4096
def yAdd (S : Nat → Int → Prop) (k : Nat) (v : Int) : Nat → Int → Prop := fun k' v' => S k' v' ∨ (k' = k ∧ v' = v)
theorem yDq_c {m : Nat → Int → Int} {S S' : Nat → Int → Prop} (h : yDq m S) (e : ∀ k v, S k v ↔ S' k v) : yDq m S' := by
  have : S = S' := funext fun k => funext fun v => propext (e k v)
  rw [← this]
  exact h
theorem yDq_fr {m m' : Nat → Int → Int} {S : Nat → Int → Prop} (h : yDq m S) (h1 : m' 87 = m 87) (h2 : m' 88 = m 88) : yDq m' S := by
  unfold yDq
  rw [h1, h2]
  exact h
section ZR
variable {L : Nat} {m : Nat → Int → Int} (D : Nat)
theorem yRow_hit {x q : Int} {P : Nat → Prop} (h : yRow x P) (hq : 0 ≤ q ∧ q < 64) : z_andl x (z_shll 1 q) = 0 ↔ ¬ P q.toNat := by
  have e := yBit_shl q.toNat (by omega)
  rw [show ((q.toNat : Nat) : Int) = q by omega] at e
  have r : yRow (z_andl x (z_shll 1 q)) (fun s => P s ∧ s = q.toNat) := ⟨⟨_, rfl⟩, fun s hs => by
    rw [yBit_and, e s hs, Bool.and_eq_true, beq_iff_eq, h.2 s hs]⟩
  constructor
  · intro g k
    have := (r.2 q.toNat (by omega)).mpr ⟨k, rfl⟩
    rw [g, yBit_zero] at this
    exact absurd this (by decide)
  · intro g
    exact yRow_none r fun s hs k => g (by rw [← k.2]; exact k.1)
theorem zsg0 {x : Int} : (if 0 < x then (1 : Int) else if x = 0 then 0 else -1) = 0 ↔ x = 0 := by
  by_cases g : 0 < x
  · rw [if_pos g]
    omega
  · rw [if_neg g]
    by_cases g2 : x = 0
    · rw [if_pos g2]
      omega
    · rw [if_neg g2]
      omega
theorem zk_171 {S : Nat → Int → Prop} (h : yDq m S) (k : Nat) (hk : k < 3) (v : Int) (hv : 0 ≤ v ∧ v < 4096) : ∃ m', zmD zP (D + 1) 171 [zr 64, zi k, zi v] (zW L m) = some (none, zW L m') ∧ yFq (fun x _ => x = 87 ∨ x = 88) m m' ∧ yDq m' (yAdd S k v) := by
  obtain ⟨h1, h2⟩ := h
  obtain ⟨a1, a2⟩ := z_and63 hv
  have hr := h1 k hk (v / 64) (by omega) (by omega)
  have hit := yRow_hit hr (q := v % 64) (by omega)
  have ev : 64 * (v / 64) + ((v % 64).toNat : Nat) = v := by omega
  rw [ev] at hit
  have hn := yNb_in (p := S k) 4096
  rw [zen_171, zb_171_0, a2, w32_of (z := (k : Int) * 64) (by omega) (by omega), w32_of (z := (k : Int) * 64 + v / 64) (by omega) (by omega), show (k : Int) * 64 + v / 64 = 64 * k + v / 64 by omega, zb_171_10, a1, zb_171_18, if_neg (by omega), zgr_64_5, zbs, zlen_88, zbs, if_pos (by omega), zbs, zai_88 (by omega) (by omega), zbs]
  by_cases g : S k v
  · rw [if_neg (fun q => absurd g (hit.mp (zsg0.mp q)))]
    refine ⟨m, rfl, yFq_rfl, yDq_c ⟨h1, h2⟩ fun k' v' => ⟨.inl, fun q => ?_⟩⟩
    rcases q with q | ⟨q1, q2⟩
    · exact q
    · rw [q1, q2]
      exact g
  · rw [if_pos (zsg0.mpr (hit.mpr g)), zbs, zai_88 (by omega) (by omega), zbs, zsi_88 (by omega) (by omega), zbs, zgr_64_4, zbs, zai_87 (by omega) (by omega), zbs, zup_ne (by decide), h2 k hk, w32_of (by omega) (by omega), zsi_87 (by omega) (by omega), zbs]
    refine ⟨_, rfl, fun x j hx => ?_, fun k' hk' s s1 s2 => ?_, fun k' hk' => ?_⟩
    · rw [zup_ne (by omega), zup_ne (by omega)]
    · rw [zup_ne (by decide)]
      by_cases g2 : (64 : Int) * k' + s = 64 * k + v / 64
      · have q1 : k' = k := by omega
        have q2 : s = v / 64 := by omega
        rw [q1, q2, zup_self]
        refine yRow_add hr (by omega) fun t ht => ?_
        show (S k (64 * (v / 64) + t) ∨ (k = k ∧ 64 * (v / 64) + (t : Int) = v)) ↔ _
        exact or_congr Iff.rfl ⟨fun q => by omega, fun q => ⟨rfl, by omega⟩⟩
      · rw [zup_ne2 g2]
        refine yRow_c (h1 k' hk' s s1 s2) fun t ht => ⟨.inl, fun q => ?_⟩
        rcases q with q | ⟨q1, q2⟩
        · exact q
        · exact absurd (by rw [q1]; omega) g2
    · by_cases g2 : k' = k
      · rw [g2, zup_self, ← (by rw [if_pos (by omega)] : yNb (S k) 4096 + (if v < (4096 : Nat) then 1 else 0) = yNb (S k) 4096 + 1), ← yNb_add g (by omega) 4096]
        exact yNb_cg 4096 fun u _ _ => or_congr Iff.rfl ⟨fun q => ⟨rfl, q⟩, fun q => q.2⟩
      · rw [zup_ne2 (by omega), zup_ne (by decide), h2 k' hk']
        exact yNb_cg 4096 fun u _ _ => ⟨.inl, fun q => q.elim id fun q => absurd q.1 g2⟩
/-- the first reading, as it is kept -/
def yKp (m : Nat → Int → Int) : Option (List Int) → Prop
  | none => m 64 7 = 0 ∧ ∀ k : Nat, k < 3 → m 86 k = -1
  | some s => m 64 7 = 1 ∧ ∀ k : Nat, k < 3 → m 86 k = s.getD k (-1)
theorem yKp_fr {m m' : Nat → Int → Int} {o : Option (List Int)} (h : yKp m o) (h1 : m' 64 7 = m 64 7) (h2 : m' 86 = m 86) : yKp m' o := by
  cases o <;> (unfold yKp at h ⊢; rw [h1, h2]; exact h)
theorem zk_169 {o : Option (List Int)} (h : yKp m o) {s : List Int} (hs : ∀ k : Nat, k < 3 → m 85 k = s.getD k (-1)) : ∃ m', zmD zP (D + 1) 169 [zr 64] (zW L m) = some (none, zW L m') ∧ yFq (fun x j => x = 64 ∧ j = 7 ∨ x = 86) m m' ∧ yKp m' (yFo s o [[]]) := by
  rw [zen_169, zb_169_0, zgi_64, zbs]
  cases o with
  | some t =>
    have h7 : m 64 7 = 1 := h.1
    rw [h7, if_neg (by decide)]
    exact ⟨m, rfl, yFq_rfl, h⟩
  | none =>
    have h7 : m 64 7 = 0 := h.1
    rw [h7, if_pos rfl, zgr_64_2, zbs, zgr_64_3, zbs, zw_copy (congrArg Prod.fst zh_85) (congrArg Prod.fst zh_86) (by decide) (by decide) (by decide) (by rw [zh_85]; decide) (by rw [zh_86]; decide), zbs, zpz_64 (.inr rfl), zbs]
    refine ⟨_, rfl, fun x j hx => ?_, zup_self, fun k hk => ?_⟩
    · by_cases g : x = 64
      · subst g
        rw [zup_ne2 (by omega), zcp_ne (by decide)]
      · rw [zup_ne g, zcp_ne (by omega)]
    · rw [zup_ne (by decide)]
      unfold zcp
      rw [if_pos ⟨rfl, by omega, by omega⟩, show (0 : Int) + ((k : Int) - 0) = k by omega, hs k hk, List.append_nil]
/-- a game as it is split -/
def yGm (m : Nat → Int → Int) (P : List (List Int)) : Prop := m 42 5 = P.length ∧ P.length ≤ 12 ∧ ∀ i : Nat, i < P.length → yPd m i (P.getD i [])
theorem yGm_fr {m m' : Nat → Int → Int} {P : List (List Int)} (h : yGm m P) {lo hi : Nat} (hf : yFr lo hi m m') (hl : 57 ≤ lo) : yGm m' P := by
  obtain ⟨h1, h2, h3⟩ := h
  refine ⟨by rw [hf 42 (by omega)]; exact h1, h2, fun i hi => ?_⟩
  have := h3 i hi
  unfold yPd at this ⊢
  rw [hf (44 + i) (by omega), hf 56 (by omega)]
  exact this
theorem zk_156g {a e q R : Nat} {P : List (List Int)} {i : Nat} {b : Int → Int} {c : Int} (hb : yBd L a e) (hq : yLs L q R) (da : a < q ∨ q + 3 < a) (de : e < q ∨ q + 3 < e) (hq2 : 57 ≤ q) (hg : yGm m P) (hi : i < P.length) (on : yOn m a e b c) : ∃ m', zmD zP (D + 5) 156 [zr 42, zi i, zr a, zr q] (zW L m) = some (none, zW L m') ∧ yFr q (q + 3) m m' ∧ m' q 3 = ((yFl b c (P.getD i [])).take R).length ∧ ∀ k : Nat, k < ((yFl b c (P.getD i [])).take R).length → m' (q + 1) k = ((yFl b c (P.getD i [])).take R).getD k 0 := by
  obtain ⟨hn, h12, hpd⟩ := hg
  have hp := hpd i hi
  generalize P.getD i [] = p at *
  obtain ⟨gd, hbb, hc⟩ := on
  obtain ⟨M, r1, r2, r3, r4⟩ := zk_75 (L := L) (m := m) D hb (yGd2_1 gd) hq (zsh_44 (L := L) (k := i) (by omega)) da de (.inl (by omega))
  have e1 : yMv (yB (m e)) (8 * m a 1) = yMv b c := by rw [hc, yMv_cg hbb]
  have e2 : (yMv b c).filter (yFc m (44 + i) (yB (m e))) = yFl b c p := by
    apply List.filter_congr
    intro v hv
    obtain ⟨⟨v1, v2⟩, -⟩ := yMv_go hv
    have : yT (yFitC m (44 + i) (yB (m e) (v / 64) % 8 - 1) v) = yT (yFits p (b (v / 64) % 8 - 1) v) := by
      rw [hbb (v / 64) (by omega) (by omega)]
      refine yT_c ?_
      unfold yFitC yFits
      rw [hp.1.1, hp.1.2.1, hp.1.2.2]
      constructor
      · rintro ⟨q1, q2⟩
        refine ⟨Classical.byContradiction fun q => q1 (yT_neg q), q2⟩
      · rintro ⟨q1, q2⟩
        exact ⟨by rw [yT_pos q1]; decide, q2⟩
    unfold yFc yMean
    rw [this]
  rw [e1, e2] at r3 r4
  rw [zen_156, zb_156_0, if_neg (by omega), zgi_42, zbs, hn, if_pos (by omega), zgr_42_0, zbs, zar_43 (by omega), zbs, ybc hb, r1, zbs, zmG_n, zb_156_23, zb_156_30]
  exact ⟨M, rfl, r2, r3.1, fun k hk => (r3.2 k hk).1⟩
theorem yBd_6 {k : Nat} (hk : k < 3) : yBd L (66 + 2 * k) (67 + 2 * k) := by
  have h : k = 0 ∨ k = 1 ∨ k = 2 := by omega
  rcases h with rfl | rfl | rfl
  · exact ⟨zh_66, (zw_gr (L := L) (m := fun _ _ => 0) (congrArg Prod.fst zh_66)).symm.trans zgr_66_0, zh_67, by decide, by decide, by decide⟩
  · exact ⟨zh_68, (zw_gr (L := L) (m := fun _ _ => 0) (congrArg Prod.fst zh_68)).symm.trans zgr_68_0, zh_69, by decide, by decide, by decide⟩
  · exact ⟨zh_70, (zw_gr (L := L) (m := fun _ _ => 0) (congrArg Prod.fst zh_70)).symm.trans zgr_70_0, zh_71, by decide, by decide, by decide⟩
theorem yLs_7 {k : Nat} (hk : k < 3) : yLs L (73 + 4 * k) 41 := by
  have h : k = 0 ∨ k = 1 ∨ k = 2 := by omega
  rcases h with rfl | rfl | rfl
  · exact ⟨⟨zh_73, (zw_gr (L := L) (m := fun _ _ => 0) (congrArg Prod.fst zh_73)).symm.trans zgr_73_0, (zw_gr (L := L) (m := fun _ _ => 0) (congrArg Prod.fst zh_73)).symm.trans zgr_73_1, (zw_gr (L := L) (m := fun _ _ => 0) (congrArg Prod.fst zh_73)).symm.trans zgr_73_2⟩, ⟨zh_74, zh_75, zh_76⟩, by decide, by decide⟩
  · exact ⟨⟨zh_77, (zw_gr (L := L) (m := fun _ _ => 0) (congrArg Prod.fst zh_77)).symm.trans zgr_77_0, (zw_gr (L := L) (m := fun _ _ => 0) (congrArg Prod.fst zh_77)).symm.trans zgr_77_1, (zw_gr (L := L) (m := fun _ _ => 0) (congrArg Prod.fst zh_77)).symm.trans zgr_77_2⟩, ⟨zh_78, zh_79, zh_80⟩, by decide, by decide⟩
  · exact ⟨⟨zh_81, (zw_gr (L := L) (m := fun _ _ => 0) (congrArg Prod.fst zh_81)).symm.trans zgr_81_0, (zw_gr (L := L) (m := fun _ _ => 0) (congrArg Prod.fst zh_81)).symm.trans zgr_81_1, (zw_gr (L := L) (m := fun _ _ => 0) (congrArg Prod.fst zh_81)).symm.trans zgr_81_2⟩, ⟨zh_82, zh_83, zh_84⟩, by decide, by decide⟩
theorem zar_65 {k : Nat} (hk : k < 3) : zAR (zW L m) 105 65 (k : Int) = some (66 + 2 * k) := by
  have h : k = 0 ∨ k = 1 ∨ k = 2 := by omega
  rcases h with rfl | rfl | rfl
  · exact zar_65_0
  · exact zar_65_1
  · exact zar_65_2
theorem zar_72 {k : Nat} (hk : k < 3) : zAR (zW L m) 106 72 (k : Int) = some (73 + 4 * k) := by
  have h : k = 0 ∨ k = 1 ∨ k = 2 := by omega
  rcases h with rfl | rfl | rfl
  · exact zar_72_0
  · exact zar_72_1
  · exact zar_72_2
theorem zk_170 {k : Nat} (hk : k < 3) {b : Int → Int} {c v : Int} (on : yOn m (66 + 2 * k) (67 + 2 * k) b c) (hv : v ∈ yMv b c) : ∃ m', zmD zP (D + 3) 170 [zr 64, zi k, zi v] (zW L m) = some (none, zW L m') ∧ yFq (fun x j => x = 85 ∧ j = k ∨ 68 + 2 * k ≤ x ∧ x ≤ 71) m m' ∧ m' 85 k = v ∧ (k < 2 → yOn m' (66 + 2 * (k + 1)) (67 + 2 * (k + 1)) (yBv b v) (8 - c)) := by
  obtain ⟨⟨v1, v2⟩, v3⟩ := yMv_go hv
  have kx : ∀ x, x ≠ 85 → zup m 85 k v x = m x := fun x hx => by
    funext j
    exact zup_ne hx
  rw [zen_170, zb_170_0, zgr_64_2, zbs, zsi_85 (by omega) (by omega), zbs, w32_of (z := (k : Int) + 1) (by omega) (by omega)]
  by_cases g : k < 2
  · have on1 : yOn (zup m 85 k v) (66 + 2 * k) (67 + 2 * k) b c := yOn_c on (kx _ (by omega)) (kx _ (by omega)) fun x hx => kx x (by omega)
    have hb := yBd_6 (L := L) (k := k + 1) (by omega)
    obtain ⟨T, M, e1, e2, e3, on2, kM⟩ := yOn_go (L := L) hb on1 (by omega) hv
    have z1 : ∀ m : Nat → Int → Int, zAR (zW L m) 105 65 ((k : Int) + 1) = some (66 + 2 * (k + 1)) := fun m => zar_65 (k := k + 1) (by omega)
    rw [if_pos (by omega), zgr_64_0, zbs, z1, zbs, zbs, zar_65 (by omega), zbs, ybc hb, zk_136 (D + 1) hb (yBd_6 (L := L) (by omega)) (by omega) (by omega), e1, zbs, zmG_n, zb_170_31, zgr_64_0, zbs, w32_of (z := (k : Int) + 1) (by omega) (by omega), z1, zbs, ybc hb, zk_108 D hb v ⟨v1, v2⟩ e2, e3, zbs, zmG_n, zb_170_43]
    refine ⟨M, rfl, fun x j hx => ?_, ?_, fun _ => on2⟩
    · rw [kM x (by omega) (by omega)]
      by_cases g2 : x = 85
      · subst g2
        exact zup_ne2 (by omega)
      · exact zup_ne g2
    · rw [kM 85 (by omega) (by omega), zup_self]
  · rw [if_neg (by omega), zb_170_43]
    refine ⟨_, rfl, fun x j hx => ?_, zup_self, fun q => absurd q g⟩
    by_cases g2 : x = 85
    · subst g2
      exact zup_ne2 (by omega)
    · exact zup_ne g2
end ZR
