/-! get, copy, write, read, weight of the class -/
def yRow2 (k : Nat) (f : Nat → Int) : List Int := (List.range k).map f
theorem yRow2_len {k : Nat} {f : Nat → Int} : (yRow2 k f).length = k := by
  unfold yRow2
  rw [List.length_map, List.length_range]
theorem yRow2_get {k : Nat} {f : Nat → Int} {i : Nat} (h : i < k) : (yRow2 k f).getD i 0 = f i := by
  unfold yRow2
  rw [List.getD_eq_getElem?_getD, List.getElem?_map, List.getElem?_range h]
  rfl
def yCpy (zs zt : List Int) (i j k : Int) : List Int := yRow2 zt.length fun a => if j ≤ a ∧ (a : Int) < j + k then zs.getD (i + (a - j)).toNat 0 else zt.getD a 0
def yWrt (z xs : List Int) (f : Int) : List Int := yRow2 z.length fun a => if a < xs.length then yCut f (xs.getD a 0) else z.getD a 0
noncomputable def yRdS : List Int → (Int → Int) → Int → Int × (Int → Int) × Int
  | [], b, c => (0, b, c)
  | v :: z, b, c => if yT (v ∈ yMv b c) = 0 then (0, b, c) else ((yRdS z (yPut b (v / 64) (v % 64)) (8 - c)).1 + 1, (yRdS z (yPut b (v / 64) (v % 64)) (8 - c)).2)
theorem yRdS_cons {v : Int} {z : List Int} {b : Int → Int} {c : Int} : yRdS (v :: z) b c = if yT (v ∈ yMv b c) = 0 then (0, b, c) else ((yRdS z (yPut b (v / 64) (v % 64)) (8 - c)).1 + 1, (yRdS z (yPut b (v / 64) (v % 64)) (8 - c)).2) := rfl
theorem yRdS_in : ∀ (z : List Int) (b : Int → Int) (c : Int), 0 ≤ (yRdS z b c).1 ∧ (yRdS z b c).1 ≤ z.length
  | [], b, c => ⟨Int.le_refl 0, Int.le_refl 0⟩
  | v :: z, b, c => by
    rw [yRdS_cons, List.length_cons]
    split
    · exact ⟨Int.le_refl 0, by show (0 : Int) ≤ _; omega⟩
    · have := yRdS_in z (yPut b (v / 64) (v % 64)) (8 - c)
      exact ⟨by show 0 ≤ (yRdS z (yPut b (v / 64) (v % 64)) (8 - c)).1 + 1; omega, by show (yRdS z (yPut b (v / 64) (v % 64)) (8 - c)).1 + 1 ≤ _; omega⟩
section ZR
variable {L : Nat} {m m' : Nat → Int → Int} (D : Nat) {w : Int → List Int} {b : Int → Int} {c n e : Int} {W F : Int → Int} {Z : Int → List Int}
theorem yk_186 (h : yCs m w b c n e W F Z) (s form i : Int) : ∃ m', zmD zP (D + 3) 186 [zr 0, zi s, zi form, zi i] (zW L m) = some (some (zi (if (0 ≤ s ∧ s < 4) ∧ (0 ≤ form ∧ form ≤ 2) ∧ yLk (F s) form i (Z s) = 0 then (Z s).getD i.toNat 0 else -2147483648)), zW L m') ∧ yFr 0 97 m m' ∧ (¬ ((0 ≤ s ∧ s < 4) ∧ (0 ≤ form ∧ form ≤ 2)) → yCs m' w b c n e W F Z) ∧ ((0 ≤ s ∧ s < 4) ∧ (0 ≤ form ∧ form ≤ 2) → (yLk (F s) form i (Z s) ≠ 0 → yCs m' w b c n (yLk (F s) form i (Z s)) W F Z) ∧ (yLk (F s) form i (Z s) = 0 → yCs m' w b c n e W F Z)) := by
  rw [zen_186, zb_186_0, zcv_0, zk_110, zbs, zmG_v, zb_186_5]
  by_cases g : 0 ≤ s ∧ s < 4
  · rw [if_pos g, if_pos rfl, zk_177, zbs, zmG_v, zb_186_12]
    by_cases g2 : 0 ≤ form ∧ form ≤ 2
    · have gg : (0 ≤ s ∧ s < 4) ∧ (0 ≤ form ∧ form ≤ 2) := ⟨g, g2⟩
      rw [if_pos g2, if_pos rfl, zgr_0_12, zbs, yar g, zbs, yk_182 D h g, zbs, zmG_v, zb_186_30]
      by_cases g3 : yLk (F s) form i (Z s) = 0
      · rcases yCs_sh h g with ⟨k1, k2⟩ | ⟨k1, k2, k3, k4, k5, k6⟩
        · exfalso
          unfold yLk at g3
          rw [if_pos k1] at g3
          exact absurd g3 (by decide)
        · have hk : 0 ≤ i ∧ i < (Z s).length := by
            unfold yLk at g3
            rw [if_neg (by omega)] at g3
            split at g3
            · exact absurd g3 (by decide)
            · split at g3
              · assumption
              · exact absurd g3 (by decide)
          have hz := zk_114 (L := L) (m := m) (D + 1) (ySo_of g) k4 k5 k6 i.toNat (by omega)
          rw [show ((i.toNat : Nat) : Int) = i by omega] at hz
          rw [if_pos g3, if_pos ⟨g, g2, g3⟩, zgr_0_12, zbs, yar g, zbs, ysc (ySo_of g), hz, zbs, zmG_v, zb_186_58]
          exact ⟨m, rfl, yFr_rfl, fun q => absurd gg q, fun _ => ⟨fun q => absurd g3 q, fun _ => h⟩⟩
      · rw [if_neg g3, if_neg (fun q => g3 q.2.2), zcv_0, zk_112 (D + 1) _ yLk_in, zbs, zmG_v, zb_186_43]
        exact ⟨_, rfl, yFr_0, fun q => absurd gg q, fun _ => ⟨fun _ => yCs_found h _, fun q => absurd q g3⟩⟩
    · rw [if_neg g2, if_neg (c := (1 : Int) = 0) (by decide), if_neg (fun q => g2 q.2.1), zb_186_15]
      exact ⟨m, rfl, yFr_rfl, fun _ => h, fun q => absurd q.2 g2⟩
  · rw [if_neg g, if_neg (c := (1 : Int) = 0) (by decide), if_neg (fun q => g q.1), zb_186_15]
    exact ⟨m, rfl, yFr_rfl, fun _ => h, fun q => absurd q.1 g⟩
theorem yk_127 (h : yCs m w b c n e W F Z) (i v : Int) : ∃ m', zmD zP (D + 1) 127 [zr 0, zi i, zi v] (zW L m) = some (some (zi (if (0 ≤ i ∧ i ≤ 5) ∧ 0 ≤ v ∧ v ≤ 9 then W i else -2)), zW L m') ∧ yFr 0 97 m m' ∧ (¬ ((0 ≤ i ∧ i ≤ 5) ∧ 0 ≤ v ∧ v ≤ 9) → yCs m' w b c n e W F Z) ∧ ((0 ≤ i ∧ i ≤ 5) ∧ 0 ≤ v ∧ v ≤ 9 → yCs m' w b c n e (yUi W i v) F Z) := by
  rw [zen_127, zb_127_0]
  by_cases g : (0 ≤ i ∧ i ≤ 5) ∧ 0 ≤ v ∧ v ≤ 9
  · have hw := h.2.2.2.2.2.1 i g.1.1 (by omega)
    rw [if_neg (by omega), if_pos (show i < 6 by omega), if_neg (show ¬ v < 0 by omega), if_neg (show ¬ 9 < v by omega), if_pos g, zgr_0_7, zbs, zai_19 g.1.1 (by omega), zbs, zbs, zsi_19 g.1.1 (by omega), zbs, hw.1]
    have kx : ∀ x, x ≠ 19 → zup m 19 i v x = m x := fun x x1 => by
      funext j
      rw [zup_ne x1]
    refine ⟨_, rfl, fun x hx => kx x (by omega), fun q => absurd g q, fun _ => ?_⟩
    obtain ⟨a0, ⟨b1, b2, b3⟩, c0, d1, e1, f1, g0, g1, g2, g3⟩ := h
    refine ⟨⟨yTw_c a0.1 (kx 2 (by decide)) (kx 3 (by decide)), yTw_c a0.2.1 (kx 4 (by decide)) (kx 5 (by decide)), yTw_c a0.2.2 (kx 6 (by decide)) (kx 7 (by decide))⟩, ⟨yGd2_c b1 (kx 8 (by decide)) (kx 9 (by decide)) (fun x hx => kx x (by omega)), by rw [kx 9 (by decide)]; exact b2, by rw [kx 8 (by decide)]; exact b3⟩, by rw [kx 0 (by decide)]; exact c0, ?_, ?_, fun j j1 j2 => ?_, yShC_fr g0 (kx 90 (by decide)) (kx _ (by decide)), yShC_fr g1 (kx 92 (by decide)) (kx _ (by decide)), yShC_fr g2 (kx 94 (by decide)) (kx _ (by decide)), yShC_fr g3 (kx 96 (by decide)) (kx _ (by decide))⟩
    · rw [kx 0 (by decide)]
      refine d1.imp id fun k => ⟨k.1, ?_⟩
      unfold yNm2 yMl
      rw [kx 13 (by decide), kx (13 + 1) (by decide), kx (13 + 2) (by decide), kx (13 + 3) (by decide)]
      exact k.2
    · refine yFix_fr (P := fun x _ => x = 19) e1 (fun x j hx => by rw [kx x hx]) (fun x j hx hn => by omega)
    · unfold yUi
      by_cases gj : j = i
      · rw [if_pos gj, gj, zup_self]
        exact ⟨rfl, g.2⟩
      · rw [if_neg gj, zup_ne2 gj]
        exact f1 j j1 j2
  · rw [if_neg g]
    have e1 : ∀ X : Option zmR, (if i < 0 then some (some (zi (-2)), zW L m) else if i < 6 then (if v < 0 then some (some (zi (-2)), zW L m) else if 9 < v then some (some (zi (-2)), zW L m) else X) else some (some (zi (-2)), zW L m)) = some (some (zi (-2)), zW L m) := fun X => by
      by_cases k1 : i < 0
      · rw [if_pos k1]
      · rw [if_neg k1]
        by_cases k2 : i < 6
        · rw [if_pos k2]
          by_cases k3 : v < 0
          · rw [if_pos k3]
          · rw [if_neg k3, if_pos (by omega)]
        · rw [if_neg k2]
    rw [e1]
    exact ⟨m, rfl, yFr_rfl, fun _ => h, fun q => absurd q g⟩
theorem yk_109 (h : yCs m w b c n e W F Z) (hn : 0 ≤ n ∧ n ≤ 1000000000) (s : Int) : ∃ m', zmD zP (D + 8) 109 [zr 0, zi s] (zW L m) = some (some (zi (if 0 ≤ s ∧ s < 4 then (if F s = -1 then -11 else (yRdS (Z s) b c).1) else -2)), zW L m') ∧ yFr 0 97 m m' ∧ (¬ (0 ≤ s ∧ s < 4) → yCs m' w b c n e W F Z) ∧ (0 ≤ s ∧ s < 4 → (F s = -1 → yCs m' w b c n 1 W F Z) ∧ (F s ≠ -1 → yCs m' w (yRdS (Z s) b c).2.1 (yRdS (Z s) b c).2.2 (n + (yRdS (Z s) b c).1) e W F Z)) := by
  rw [zen_109, zb_109_0, zcv_0, zk_110, zbs, zmG_v, zb_109_5]
  by_cases g : 0 ≤ s ∧ s < 4
  · rw [if_pos g, if_pos rfl, zgr_0_12, zbs, yar g, zbs, ysc (ySo_of g), zk_111 _ (ySo_of g), zbs, zmG_v, zb_109_22, if_pos g]
    rcases yCs_sh h g with ⟨k1, k2⟩ | ⟨k1, k2, k3, k4, k5, k6⟩
    · rw [if_pos k2, if_neg (c := (1 : Int) = 0) (by decide), if_pos k1, zcv_0, zk_112 (D + 6) 1 (by decide), zbs, zmG_v, zb_109_30]
      exact ⟨_, rfl, yFr_0, fun q => absurd g q, fun _ => ⟨fun _ => yCs_found h 1, fun q => absurd k1 q⟩⟩
    · have kf : F s ≠ -1 := by omega
      rw [k2, if_neg (c := (1 : Int) = 0) (by decide), if_pos rfl, if_neg kf]
      suffices go : ∀ k i : Nat, i + k = (Z s).length → ∀ (M : Nat → Int → Int) (b1 : Int → Int) (c1 n1 : Int), yFr 0 97 m M → yCs M w b1 c1 n1 e W F Z → n1 = n + i → ∃ m', zmE (zmD zP (D+7)) zc_109 (33, [some (zr 0), some (zi s), some (zr (ya s)), some (zi i)], [], zW L M) = some (some (zi (i + (yRdS ((Z s).drop i) b1 c1).1)), zW L m') ∧ yFr 0 97 m m' ∧ yCs m' w (yRdS ((Z s).drop i) b1 c1).2.1 (yRdS ((Z s).drop i) b1 c1).2.2 (n1 + (yRdS ((Z s).drop i) b1 c1).1) e W F Z by
        obtain ⟨m', r1, r2, r3⟩ := go (Z s).length 0 (by omega) m b c n yFr_rfl h (by rw [Int.natCast_zero, Int.add_zero])
        rw [List.drop_zero, Int.natCast_zero, Int.zero_add] at r1
        rw [List.drop_zero] at r3
        exact ⟨m', r1, r2, fun q => absurd g q, fun _ => ⟨fun q => absurd q kf, fun _ => r3⟩⟩
      intro k
      induction k with
      | zero =>
        intro i hi M b1 c1 n1 hF hC hn1
        rcases yCs_sh hC g with ⟨q1, -⟩ | ⟨-, q2, q3, q4, q5, q6⟩
        · exact absurd q1 kf
        · rw [zb_109_33, ysc (ySo_of g), zk_113 _ (ySo_of g), zbs, zmG_v, zb_109_38, q4, if_neg (by omega), List.drop_eq_nil_of_le (by omega)]
          refine ⟨M, ?_, hF, ?_⟩
          · show some (some (zi i), _) = some (some (zi ((i : Int) + 0)), _)
            rw [Int.add_zero]
          · show yCs M w b1 c1 (n1 + 0) e W F Z
            rw [Int.add_zero]
            exact hC
      | succ k ih =>
        intro i hi M b1 c1 n1 hF hC hn1
        rcases yCs_sh hC g with ⟨q1, -⟩ | ⟨-, q2, q3, q4, q5, q6⟩
        · exact absurd q1 kf
        · obtain ⟨M', r1, r2, r3, r4⟩ := yk_107 (L := L) (m := M) D hC ⟨by omega, by omega⟩ ((Z s).getD i 0)
          rw [zb_109_33, ysc (ySo_of g), zk_113 _ (ySo_of g), zbs, zmG_v, zb_109_38, q4, if_pos (by omega), ysc (ySo_of g), zk_114 _ (ySo_of g) q4 q5 q6 i (by omega), zbs, zmG_v, zb_109_47, zcv_0, r1, zbs, zmG_v, zb_109_50, ydrop (w := Z s) (i := i) (by omega), yRdS_cons]
          by_cases g2 : (Z s).getD i 0 ∈ yMv b1 c1
          · obtain ⟨m', t1, t2, t3⟩ := ih (i + 1) (by omega) M' _ _ _ (yFr_tr hF r2) (r4 g2) (by rw [Int.natCast_succ]; omega)
            rw [yT_pos g2, if_neg (c := (1 : Int) = 0) (by decide), if_neg (c := (1 : Int) = 0) (by decide), w32_of (by omega) (by omega)]
            rw [Int.natCast_succ] at t1
            refine ⟨m', ?_, t2, ?_⟩
            · rw [t1]
              refine congrArg (fun z => some (some (zi z), zW L m')) ?_
              show _ = (i : Int) + ((yRdS ((Z s).drop (i + 1)) (yPut b1 ((Z s).getD i 0 / 64) ((Z s).getD i 0 % 64)) (8 - c1)).1 + 1)
              omega
            · have e2 : n1 + ((yRdS ((Z s).drop (i + 1)) (yPut b1 ((Z s).getD i 0 / 64) ((Z s).getD i 0 % 64)) (8 - c1)).1 + 1) = n1 + 1 + (yRdS ((Z s).drop (i + 1)) (yPut b1 ((Z s).getD i 0 / 64) ((Z s).getD i 0 % 64)) (8 - c1)).1 := by omega
              show yCs m' w _ _ (n1 + ((yRdS ((Z s).drop (i + 1)) (yPut b1 ((Z s).getD i 0 / 64) ((Z s).getD i 0 % 64)) (8 - c1)).1 + 1)) e W F Z
              rw [e2]
              exact t3
          · rw [yT_neg g2, if_pos rfl, if_pos rfl]
            refine ⟨M', ?_, yFr_tr hF r2, ?_⟩
            · show some (some (zi i), _) = some (some (zi ((i : Int) + 0)), _)
              rw [Int.add_zero]
            · show yCs M' w b1 c1 (n1 + 0) e W F Z
              rw [Int.add_zero]
              exact r3 g2
  · rw [if_neg g, if_neg (c := (1 : Int) = 0) (by decide), if_neg g]
    exact ⟨m, rfl, yFr_rfl, fun _ => h, fun q => absurd q g⟩
theorem yk_189 (h : yCs m w b c n e W F Z) (s : Int) : ∃ m', zmD zP (D + 6) 189 [zr 0, zi s] (zW L m) = some (some (zi (if 0 ≤ s ∧ s < 4 then (if F s = -1 then -11 else if (yMv b c).length < (Z s).length then (yMv b c).length else (Z s).length) else -2)), zW L m') ∧ yFr 0 97 m m' ∧ (¬ (0 ≤ s ∧ s < 4) → yCs m' w b c n e W F Z) ∧ (0 ≤ s ∧ s < 4 → (F s = -1 → yCs m' w b c n 1 W F Z) ∧ (F s ≠ -1 → yCs m' w b c n e W F (yUp Z s (yWrt (Z s) (yMv b c) (F s))))) := by
  rw [zen_189, zb_189_0, zcv_0, zk_110, zbs, zmG_v, zb_189_5]
  by_cases g : 0 ≤ s ∧ s < 4
  · rw [if_pos g, if_pos rfl, zgr_0_12, zbs, yar g, zbs, ysc (ySo_of g), zk_111 _ (ySo_of g), zbs, zmG_v, zb_189_20, if_pos g]
    rcases yCs_sh h g with ⟨k1, k2⟩ | ⟨k1, k2, k3, k4, k5, k6⟩
    · rw [if_pos k2, if_neg (c := (1 : Int) = 0) (by decide), if_pos k1, zcv_0, zk_112 (D + 4) 1 (by decide), zbs, zmG_v, zb_189_28]
      exact ⟨_, rfl, yFr_0, fun q => absurd g q, fun _ => ⟨fun _ => yCs_found h 1, fun q => absurd k1 q⟩⟩
    · have kf : F s ≠ -1 := by omega
      obtain ⟨M, r1, r2, r3, r4⟩ := yk_74 (L := L) D h
      have hl : M 13 3 = (yMv b c).length := r4.1.1
      have hle := yMv_le (b := b) (c := c) (yCs_pu h).2.2.2
      have ha : ya s < 97 ∧ 90 ≤ ya s := by unfold ya; omega
      have hMa : M (ya s) = m (ya s) ∧ M (ya s + 1) = m (ya s + 1) := by
        refine ⟨?_, ?_⟩ <;> (funext j; refine r2 _ j ?_; unfold yPl; omega)
      rw [k2, if_neg (c := (1 : Int) = 0) (by decide), if_pos rfl, if_neg kf, zcv_0, r1, zbs, zmG_n, zb_189_33, zgr_0_12, zbs, yar g, zbs, ysc (ySo_of g), zk_113 _ (ySo_of g), zbs, zmG_v, zb_189_42, zgr_0_5, zbs, zcv_13, zk_90 (D + 4) yLs_13, zbs, zmG_v, zb_189_49, zk_35, zbs, zmG_v, zb_189_52, hl, hMa.1, k4]
      have eR : (if ((yMv b c).length : Int) < ((Z s).length : Int) then ((yMv b c).length : Int) else ((Z s).length : Int)) = ((if (yMv b c).length < (Z s).length then (yMv b c).length else (Z s).length : Nat) : Int) := by
        split <;> split <;> omega
      have eR2 : (if (yMv b c).length < (Z s).length then ((yMv b c).length : Int) else ((Z s).length : Int)) = ((if (yMv b c).length < (Z s).length then (yMv b c).length else (Z s).length : Nat) : Int) := by
        split <;> rfl
      rw [eR, eR2]
      generalize hR : (if (yMv b c).length < (Z s).length then (yMv b c).length else (Z s).length) = R
      have hR2 : R ≤ (yMv b c).length ∧ R ≤ (Z s).length ∧ (R = (yMv b c).length ∨ R = (Z s).length) := by rw [← hR]; split <;> omega
      suffices go : ∀ k i : Nat, i + k = R → ∀ M2 : Nat → Int → Int, (∀ x, x ≠ ya s + 1 → M2 x = M x) → (∀ j : Nat, j < (Z s).length → M2 (ya s + 1) j = if j < i then yCut (F s) ((yMv b c).getD j 0) else (Z s).getD j 0) → ∃ m', zmE (zmD zP (D+5)) zc_189 (55, [some (zr 0), some (zi s), some (zi R), some (zi i)], [], zW L M2) = some (some (zi R), zW L m') ∧ yFr 0 97 m m' ∧ yCs m' w b c n e W F (yUp Z s (yWrt (Z s) (yMv b c) (F s))) by
        obtain ⟨m', t1, t2, t3⟩ := go R 0 (by omega) M (fun _ _ => rfl) (fun j hj => by rw [if_neg (Nat.not_lt_zero j), hMa.2]; exact k6 j hj)
        exact ⟨m', t1, t2, fun q => absurd g q, fun _ => ⟨fun q => absurd q kf, fun _ => t3⟩⟩
      intro k
      induction k with
      | zero =>
        intro i hi M2 hx hz
        have hF : yFr 0 97 m M2 := fun x hx2 => by rw [hx x (by omega), yFq_pl r2 x hx2]
        rw [zb_189_55, if_neg (by omega)]
        refine ⟨M2, rfl, hF, ?_⟩
        have q := yCs_mks (m' := M2) (s := s) (f := F s) (z := yWrt (Z s) (yMv b c) (F s)) (e' := e) r3 g (.inr ⟨k1, ?_, ?_, ?_, ?_, fun j hj => ?_⟩) (fun x _ _ x2 => hx x x2) (fun j _ => by rw [hx 0 (by omega)]) (by rw [hx 0 (by omega)]; exact r3.2.2.1.2.2)
        · rw [yUi_same] at q
          exact q
        · rw [hx _ (by omega), hMa.1, k2]
        · rw [hx _ (by omega), hMa.1, k3]
        · rw [hx _ (by omega), hMa.1, k4]
          unfold yWrt
          rw [yRow2_len]
        · unfold yWrt
          rw [yRow2_len]
          exact k5
        · unfold yWrt at hj ⊢
          rw [yRow2_len] at hj
          rw [yRow2_get hj, hz j hj]
          by_cases gj : j < i
          · rw [if_pos gj, if_pos (by omega)]
          · rw [if_neg gj, if_neg (by omega)]
      | succ k ih =>
        intro i hi M2 hx hz
        have e13 : M2 13 3 = (yMv b c).length := by rw [hx 13 (by omega), hl]
        have ec : M2 (13 + 1) i = (yMv b c).getD i 0 := by
          rw [hx (13 + 1) (by omega)]
          exact (r4.1.2 i (by omega)).1
        have hMa2 : M2 (ya s) = m (ya s) := by rw [hx _ (by omega), hMa.1]
        rw [zb_189_55, if_pos (by omega), zgr_0_12, zbs, yar g, zbs, zgr_0_5, zbs, zcv_13, zk_97 (D + 4) yLs_13 (by rw [e13]; omega), zbs, zmG_v, zb_189_75, e13, if_pos (by omega), ec, ysc (ySo_of g), zk_185 (D + 4) (ySo_of g) (u := Z s) (by rw [hMa2, k4]) k5 i (by omega), zbs, zmG_n, zb_189_78, w32_of (by omega) (by omega), hMa2, k3]
        obtain ⟨m', t1, t2, t3⟩ := ih (i + 1) (by omega) (zup M2 (ya s + 1) i (yCut (F s) ((yMv b c).getD i 0))) (fun x x1 => by
          funext j
          rw [zup_ne x1, hx x x1]) (fun j hj => by
          by_cases gj : j = i
          · rw [gj, zup_self, if_pos (Nat.lt_succ_self i)]
          · rw [zup_ne2 (by omega), hz j hj]
            by_cases gi : j < i
            · rw [if_pos gi, if_pos (by omega)]
            · rw [if_neg gi, if_neg (by omega)])
        rw [Int.natCast_succ] at t1
        exact ⟨m', t1, t2, t3⟩
  · rw [if_neg g, if_neg (c := (1 : Int) = 0) (by decide), if_neg g]
    exact ⟨m, rfl, yFr_rfl, fun _ => h, fun q => absurd q g⟩
end ZR
