/-! copy of the class -/
def yInt (v : Int) : Prop := -2147483648 ≤ v ∧ v ≤ 2147483647
/-- which finding a copy meets; 0: none -/
def yCk (fs ft i j k : Int) (zs zt : List Int) : Int := if fs = -1 ∨ ft = -1 then 1 else if fs ≠ ft then 4 else if (0 ≤ i ∧ 0 ≤ k ∧ i + k ≤ zs.length) ∧ (0 ≤ j ∧ 0 ≤ k ∧ j + k ≤ zt.length) then 0 else 2
section ZR
variable {L : Nat} {m m' : Nat → Int → Int} (D : Nat) {w : Int → List Int} {b : Int → Int} {c n e : Int} {W F : Int → Int} {Z : Int → List Int}
theorem yk_187 (h : yCs m w b c n e W F Z) (s i t j k : Int) : ∃ m', zmD zP (D + 3) 187 [zr 0, zi s, zi i, zi t, zi j, zi k] (zW L m) = some (some (zi (if (0 ≤ s ∧ s < 4) ∧ (0 ≤ t ∧ t < 4) then (if yCk (F s) (F t) i j k (Z s) (Z t) = 0 then 1 else -10 - yCk (F s) (F t) i j k (Z s) (Z t)) else -2)), zW L m') ∧ yFr 0 97 m m' ∧ (¬ ((0 ≤ s ∧ s < 4) ∧ (0 ≤ t ∧ t < 4)) → yCs m' w b c n e W F Z) ∧ ((0 ≤ s ∧ s < 4) ∧ (0 ≤ t ∧ t < 4) → (yCk (F s) (F t) i j k (Z s) (Z t) ≠ 0 → yCs m' w b c n (yCk (F s) (F t) i j k (Z s) (Z t)) W F Z) ∧ (yCk (F s) (F t) i j k (Z s) (Z t) = 0 → yCs m' w b c n e W F (yUp Z t (yCpy (Z s) (Z t) i j k)))) := by
  have found : ∀ (X : Int) (e0 : Option zmR), (0 ≤ s ∧ s < 4) ∧ (0 ≤ t ∧ t < 4) → yCk (F s) (F t) i j k (Z s) (Z t) = X → X ≠ 0 → e0 = some (some (zi (-10 - X)), zW L (zup m 0 15 X)) → ∃ m', e0 = some (some (zi (if (0 ≤ s ∧ s < 4) ∧ (0 ≤ t ∧ t < 4) then (if yCk (F s) (F t) i j k (Z s) (Z t) = 0 then 1 else -10 - yCk (F s) (F t) i j k (Z s) (Z t)) else -2)), zW L m') ∧ yFr 0 97 m m' ∧ (¬ ((0 ≤ s ∧ s < 4) ∧ (0 ≤ t ∧ t < 4)) → yCs m' w b c n e W F Z) ∧ ((0 ≤ s ∧ s < 4) ∧ (0 ≤ t ∧ t < 4) → (yCk (F s) (F t) i j k (Z s) (Z t) ≠ 0 → yCs m' w b c n (yCk (F s) (F t) i j k (Z s) (Z t)) W F Z) ∧ (yCk (F s) (F t) i j k (Z s) (Z t) = 0 → yCs m' w b c n e W F (yUp Z t (yCpy (Z s) (Z t) i j k)))) := fun X e0 gg hX hX0 he0 => by
    rw [hX, if_pos gg, if_neg hX0]
    exact ⟨_, he0, yFr_0, fun q => absurd gg q, fun _ => ⟨fun _ => yCs_found h X, fun q => absurd q hX0⟩⟩
  rw [zen_187, zb_187_0, zcv_0, zk_110, zbs, zmG_v, zb_187_5]
  by_cases g : 0 ≤ s ∧ s < 4
  · rw [if_pos g, if_pos rfl, zcv_0, zk_110, zbs, zmG_v, zb_187_13]
    by_cases g2 : 0 ≤ t ∧ t < 4
    · have gg : (0 ≤ s ∧ s < 4) ∧ (0 ≤ t ∧ t < 4) := ⟨g, g2⟩
      have e51 : yCk (F s) (F t) i j k (Z s) (Z t) = 1 → zmE (zmD zP (D+2)) zc_187 (51, [some (zr 0), some (zi s), some (zi i), some (zi t), some (zi j), some (zi k), some (zr (ya s)), some (zr (ya t))], [], zW L m) = some (some (zi (-10 - 1)), zW L (zup m 0 15 1)) := fun _ => by
        rw [zb_187_51, zcv_0, zk_112 (D + 1) 1 (by decide), zbs, zmG_v, zb_187_56]
      rw [if_pos g2, if_pos rfl, zgr_0_12, zbs, yar g, zbs, zbs, yar g2, zbs, ysc (ySo_of g), zk_111 _ (ySo_of g), zbs, zmG_v, zb_187_40]
      rcases yCs_sh h g with ⟨k1, k2⟩ | ⟨k1, k2, k3, k4, k5, k6⟩
      · have hX : yCk (F s) (F t) i j k (Z s) (Z t) = 1 := by
          unfold yCk
          rw [if_pos (.inl k1)]
        rw [if_pos k2, if_neg (c := (1 : Int) = 0) (by decide)]
        exact found 1 _ gg hX (by decide) (e51 hX)
      · have kf : F s ≠ -1 := by omega
        rw [k2, if_neg (c := (1 : Int) = 0) (by decide), if_pos rfl, ysc (ySo_of g2), zk_111 _ (ySo_of g2), zbs, zmG_v, zb_187_48]
        rcases yCs_sh h g2 with ⟨l1, l2⟩ | ⟨l1, l2, l3, l4, l5, l6⟩
        · have hX : yCk (F s) (F t) i j k (Z s) (Z t) = 1 := by
            unfold yCk
            rw [if_pos (.inr l1)]
          rw [if_pos l2, if_neg (c := (1 : Int) = 0) (by decide)]
          exact found 1 _ gg hX (by decide) (e51 hX)
        · have kg : F t ≠ -1 := by omega
          rw [l2, if_neg (c := (1 : Int) = 0) (by decide), if_pos rfl, ysc (ySo_of g), zk_183 _ (ySo_of g), zbs, zmG_v, zb_187_62, ysc (ySo_of g2), zk_183 _ (ySo_of g2), zbs, zmG_v, zb_187_67, k3, l3]
          by_cases g3 : F s = F t
          · have e99 : yCk (F s) (F t) i j k (Z s) (Z t) = 2 → zmE (zmD zP (D+2)) zc_187 (99, [some (zr 0), some (zi s), some (zi i), some (zi t), some (zi j), some (zi k), some (zr (ya s)), some (zr (ya t))], [], zW L m) = some (some (zi (-10 - 2)), zW L (zup m 0 15 2)) := fun _ => by
              rw [zb_187_99, zcv_0, zk_112 (D + 1) 2 (by decide), zbs, zmG_v, zb_187_104]
            rw [if_pos g3, ysc (ySo_of g), zk_184 _ (ySo_of g) k4 k5, zbs, zmG_v, zb_187_84]
            by_cases g4 : 0 ≤ i ∧ 0 ≤ k ∧ i + k ≤ (Z s).length
            · rw [if_pos g4, if_neg (c := (1 : Int) = 0) (by decide), ysc (ySo_of g2), zk_184 _ (ySo_of g2) l4 l5, zbs, zmG_v, zb_187_96]
              by_cases g5 : 0 ≤ j ∧ 0 ≤ k ∧ j + k ≤ (Z t).length
              · have hX : yCk (F s) (F t) i j k (Z s) (Z t) = 0 := by
                  unfold yCk
                  rw [if_neg (by omega), if_neg (fun q => q g3), if_pos ⟨g4, g5⟩]
                have s0 := (ySo_of (L := L) g).1.2.2
                have s1 := (ySo_of (L := L) g2).1.2.2
                have ha : ya s < 97 ∧ 90 ≤ ya s := by unfold ya; omega
                have hb : ya t < 97 ∧ 90 ≤ ya t := by unfold ya; omega
                have e188 : zmD zP (D + 2) 188 [zr (ya t), zr (ya s), zi i, zi j, zi k] (zW L m) = some (none, zW L (zcp m (ya s + 1) i (ya t + 1) j k)) := by
                  rw [zen_188, zb_188_0, ysc (ySo_of g), zk_184 D (ySo_of g) k4 k5, zbs, zmG_v, zb_188_7, if_pos g4, if_neg (c := (1 : Int) = 0) (by decide), ysc (ySo_of g2), zk_184 D (ySo_of g2) l4 l5, zbs, zmG_v, zb_188_17, if_pos g5, if_neg (c := (1 : Int) = 0) (by decide), ysr (ySo_of g), zbs, ysr (ySo_of g2), zbs, zw_copy (congrArg Prod.fst s0) (congrArg Prod.fst s1) (by omega) (by omega) ⟨by omega, by omega, by omega⟩ (by rw [s0]; show i + k ≤ ((60 : Nat) : Int); omega) (by rw [s1]; show j + k ≤ ((60 : Nat) : Int); omega), zbs]
                rw [if_pos g5, if_neg (c := (1 : Int) = 0) (by decide), ysc (ySo_of g2), e188, zbs, zmG_n, zb_187_117, if_pos gg, hX, if_pos rfl]
                have kx : ∀ x, x ≠ ya t + 1 → zcp m (ya s + 1) i (ya t + 1) j k x = m x := fun x x1 => zcp_ne x1
                refine ⟨_, rfl, fun x hx => kx x (by omega), fun q => absurd gg q, fun _ => ⟨fun q => absurd rfl q, fun _ => ?_⟩⟩
                have q := yCs_mks (m' := zcp m (ya s + 1) i (ya t + 1) j k) (s := t) (f := F t) (z := yCpy (Z s) (Z t) i j k) (e' := e) h g2 (.inr ⟨l1, ?_, ?_, ?_, ?_, fun a ha2 => ?_⟩) (fun x _ _ x2 => kx x x2) (fun a _ => by rw [kx 0 (by omega)]) (by rw [kx 0 (by omega)]; exact h.2.2.1.2.2)
                · rw [yUi_same] at q
                  exact q
                · rw [kx _ (by omega), l2]
                · rw [kx _ (by omega), l3]
                · rw [kx _ (by omega), l4]
                  unfold yCpy
                  rw [yRow2_len]
                · unfold yCpy
                  rw [yRow2_len]
                  exact l5
                · unfold yCpy at ha2 ⊢
                  rw [yRow2_len] at ha2
                  rw [yRow2_get ha2]
                  unfold zcp
                  by_cases ga : j ≤ a ∧ (a : Int) < j + k
                  · rw [if_pos ⟨rfl, ga⟩, if_pos ga, ← k6 (i + ((a : Int) - j)).toNat (by omega), show (((i + ((a : Int) - j)).toNat : Nat) : Int) = i + ((a : Int) - j) by omega]
                  · rw [if_neg (fun q => ga q.2), if_neg ga]
                    exact l6 a ha2
              · have hX : yCk (F s) (F t) i j k (Z s) (Z t) = 2 := by
                  unfold yCk
                  rw [if_neg (by omega), if_neg (fun q => q g3), if_neg (fun q => g5 q.2)]
                rw [if_neg g5, if_pos rfl]
                exact found 2 _ gg hX (by decide) (e99 hX)
            · have hX : yCk (F s) (F t) i j k (Z s) (Z t) = 2 := by
                unfold yCk
                rw [if_neg (by omega), if_neg (fun q => q g3), if_neg (fun q => g4 q.1)]
              rw [if_neg g4, if_pos rfl]
              exact found 2 _ gg hX (by decide) (e99 hX)
          · have hX : yCk (F s) (F t) i j k (Z s) (Z t) = 4 := by
              unfold yCk
              rw [if_neg (by omega), if_pos g3]
            rw [if_neg g3, zcv_0, zk_112 (D + 1) 4 (by decide), zbs, zmG_v, zb_187_75]
            exact found 4 _ gg hX (by decide) rfl
    · rw [if_neg g2, if_neg (c := (1 : Int) = 0) (by decide), if_neg (fun q => g2 q.2)]
      exact ⟨m, rfl, yFr_rfl, fun _ => h, fun q => absurd q.2 g2⟩
  · rw [if_neg g, if_neg (c := (1 : Int) = 0) (by decide), if_neg (fun q => g q.1)]
    exact ⟨m, rfl, yFr_rfl, fun _ => h, fun q => absurd q.1 g⟩
end ZR
/-! sheets of the reference -/
section ZR
variable {L : Nat} {m m' : Nat → Int → Int} (d : Nat) {w : Int → List Int} {b : Int → Int} {c n e : Int} {W F : Int → Int} {Z : Int → List Int}
theorem yRs_sh (h : yRs m w b c n e W F Z) {s : Int} (hs : 0 ≤ s ∧ s < 4) : yShR m s (F s) (Z s) := by
  obtain ⟨-, -, -, -, g0, g1, g2, g3⟩ := h
  rcases ys4 hs with e | e | e | e <;> subst e
  · exact g0
  · exact g1
  · exact g2
  · exact g3
/-- a sheet (and perhaps the latest finding) is new; q101: items of other sheets stay -/
theorem yRs_mks (h : yRs m w b c n e W F Z) {s f e' : Int} {z : List Int} (hs : 0 ≤ s ∧ s < 4) (hl : ∀ i, 0 ≤ i ∧ i < 4 → F i ≠ -1 → (Z i).length ≤ 60) (hn : yShR m' s f z) (q : ∀ x, x ≠ 98 → x ≠ 99 → x ≠ 100 → x ≠ 101 → x ≠ 102 → x ≠ 107 → x ≠ 108 → m' x = m x) (q98 : m' 98 10 = m 98 10) (q4 : m' 98 4 = e') (q99 : ∀ j, j ≠ s → m' 99 j = m 99 j ∧ m' 100 j = m 100 j) (q101 : ∀ j, ¬ (60 * s ≤ j ∧ j < 60 * s + 60) → m' 101 j = m 101 j) : yRs m' w b c n e' W (yUi F s f) (yUp Z s z) := by
  have hsh : ∀ i : Int, 0 ≤ i ∧ i < 4 → yShR m' i (yUi F s f i) (yUp Z s z i) := fun i hi => by
    unfold yUi yUp
    by_cases g : i = s
    · rw [if_pos g, if_pos g, g]
      exact hn
    · rw [if_neg g, if_neg g]
      obtain ⟨k1, k2⟩ := yRs_sh h hi
      refine ⟨by rw [(q99 i g).1, k1], fun k3 => ?_⟩
      obtain ⟨k4, k5⟩ := k2 k3
      have := hl i hi k3
      refine ⟨by rw [(q99 i g).2, k4], fun j hj => ?_⟩
      rw [q101 _ (by omega)]
      exact k5 j hj
  have k103 := q 103 (by decide) (by decide) (by decide) (by decide) (by decide) (by decide) (by decide)
  have k104 := q 104 (by decide) (by decide) (by decide) (by decide) (by decide) (by decide) (by decide)
  have k105 := q 105 (by decide) (by decide) (by decide) (by decide) (by decide) (by decide) (by decide)
  have k106 := q 106 (by decide) (by decide) (by decide) (by decide) (by decide) (by decide) (by decide)
  have k111 := q 111 (by decide) (by decide) (by decide) (by decide) (by decide) (by decide) (by decide)
  obtain ⟨a0, ⟨b1, b2, b3⟩, c0, f1, -⟩ := h
  refine ⟨⟨yRt_c a0.1 k103 k104, yRt_c a0.2.1 k103 k104, yRt_c a0.2.2 k103 k104⟩, ⟨b1, by unfold zbd; rw [k105]; exact b2, by rw [k106]; exact b3⟩, ⟨by rw [q98]; exact c0.1, q4⟩, by rw [k111]; exact f1, hsh 0 (by decide), hsh 1 (by decide), hsh 2 (by decide), hsh 3 (by decide)⟩
theorem yRs_found (h : yRs m w b c n e W F Z) (k : Int) : yRs (zup m 98 4 k) w b c n k W F Z := by
  obtain ⟨a0, ⟨b1, b2, b3⟩, c0, f1, g0⟩ := h
  have kx : ∀ x, x ≠ 98 → zup m 98 4 k x = m x := fun x x1 => by
    funext j
    rw [zup_ne x1]
  have sh : ∀ s f z, yShR m s f z → yShR (zup m 98 4 k) s f z := fun s f z h => by
    unfold yShR
    rw [kx 99 (by decide), kx 100 (by decide), kx 101 (by decide)]
    exact h
  exact ⟨⟨yRt_c a0.1 (kx 103 (by decide)) (kx 104 (by decide)), yRt_c a0.2.1 (kx 103 (by decide)) (kx 104 (by decide)), yRt_c a0.2.2 (kx 103 (by decide)) (kx 104 (by decide))⟩, ⟨b1, by unfold zbd; rw [kx 105 (by decide)]; exact b2, by rw [kx 106 (by decide)]; exact b3⟩, ⟨by rw [zup_ne2 (by decide)]; exact c0.1, zup_self⟩, by rw [kx 111 (by decide)]; exact f1, sh _ _ _ g0.1, sh _ _ _ g0.2.1, sh _ _ _ g0.2.2.1, sh _ _ _ g0.2.2.2⟩
theorem yFr_98 {k z : Int} : yFr 98 117 m (zup m 98 k z) := fun x hx => by
  funext j
  rw [zup_ne (by omega)]
/-- what is told of lengths and forms -/
def yFz (F : Int → Int) (Z : Int → List Int) : Prop := ∀ i, 0 ≤ i ∧ i < 4 → (-1 ≤ F i ∧ F i ≤ 2) ∧ (F i ≠ -1 → (Z i).length ≤ 60)
theorem yCs_fz (h : yCs m w b c n e W F Z) : yFz F Z := fun i hi => by
  rcases yCs_sh h hi with ⟨k1, -⟩ | ⟨k1, -, -, -, k5, -⟩
  · exact ⟨by omega, fun q => absurd k1 q⟩
  · exact ⟨by omega, fun _ => k5⟩
theorem yr_203 (h : yRs m w b c n e W F Z) (hz : yFz F Z) (s f k : Int) : ∃ m', zmD zP (d + 3) 203 [zr 98, zi s, zi f, zi k] (zW L m) = some (some (zi (if (0 ≤ s ∧ s < 4) ∧ (0 ≤ f ∧ f ≤ 2) ∧ k ≤ 60 then (if k < 0 then -15 else k) else -2)), zW L m') ∧ yFr 98 117 m m' ∧ (¬ ((0 ≤ s ∧ s < 4) ∧ (0 ≤ f ∧ f ≤ 2) ∧ k ≤ 60) → yRs m' w b c n e W F Z) ∧ ((0 ≤ s ∧ s < 4) ∧ (0 ≤ f ∧ f ≤ 2) ∧ k ≤ 60 → (k < 0 → yRs m' w b c n 5 W F Z) ∧ (0 ≤ k → yRs m' w b c n e W (yUi F s f) (yUp Z s (List.replicate k.toNat 0)))) := by
  rw [zen_203, zb_203_0, zk_204, zbs, zmG_v, zb_203_4]
  by_cases g : 0 ≤ s ∧ s ≤ 3
  · rw [if_neg (fun q => zB_z.mp q g), zk_201, zbs, zmG_v, zb_203_16]
    by_cases g2 : 0 ≤ f ∧ f ≤ 2
    · rw [if_neg (fun q => zB_z.mp q g2)]
      by_cases g3 : 60 < k
      · rw [if_pos g3, if_neg (by omega)]
        exact ⟨m, rfl, yFr_rfl, fun _ => h, fun q => absurd q.2.2 (by omega)⟩
      · have gg : (0 ≤ s ∧ s < 4) ∧ (0 ≤ f ∧ f ≤ 2) ∧ k ≤ 60 := ⟨⟨g.1, by omega⟩, g2, by omega⟩
        rw [if_neg g3, if_pos gg]
        by_cases g4 : k < 0
        · rw [if_pos g4, if_pos g4, zcv_98, zk_205 (d + 1) 5 (by decide) (by decide), zbs, zmG_v, zb_203_37]
          exact ⟨_, rfl, yFr_98, fun q => absurd gg q, fun _ => ⟨fun _ => yRs_found h 5, fun q => by omega⟩⟩
        · rw [if_neg g4, if_neg g4, zgr_98_0, zbs, zsi_99 g.1 (by omega), zbs, zgr_98_1, zbs, zsi_100 g.1 (by omega), zbs]
          suffices go : ∀ n2 i : Nat, (i : Int) + n2 = k → ∀ M : Nat → Int → Int, (∀ x, x ≠ 99 → x ≠ 100 → x ≠ 101 → M x = m x) → M 99 s = f → M 100 s = k → (∀ j, j ≠ s → M 99 j = m 99 j ∧ M 100 j = m 100 j) → (∀ j, ¬ (60 * s ≤ j ∧ j < 60 * s + 60) → M 101 j = m 101 j) → (∀ j : Nat, j < i → M 101 (60 * s + j) = 0) → ∃ m', zmE (zmD zP (d+2)) zc_203 (55, [some (zr 98), some (zi s), some (zi f), some (zi k), some (zi i)], [], zW L M) = some (some (zi k), zW L m') ∧ yFr 98 117 m m' ∧ yRs m' w b c n e W (yUi F s f) (yUp Z s (List.replicate k.toNat 0)) by
            obtain ⟨m', t1, t2, t3⟩ := go k.toNat 0 (by omega) (zup (zup m 99 s f) 100 s k) (fun x x1 x2 x3 => by funext j; rw [zup_ne x2, zup_ne x1]) (by rw [zup_ne (by decide), zup_self]) zup_self (fun j hj => ⟨by rw [zup_ne (by decide), zup_ne2 hj], by rw [zup_ne2 hj, zup_ne (by decide)]⟩) (fun j _ => by rw [zup_ne (by decide), zup_ne (by decide)]) (fun j hj => absurd hj (Nat.not_lt_zero j))
            exact ⟨m', t1, t2, fun q => absurd gg q, fun _ => ⟨fun q => absurd q g4, fun _ => t3⟩⟩
          intro n2
          induction n2 with
          | zero =>
            intro i hi M hx h99 h100 hot h101 hz0
            rw [zb_203_55, if_neg (by omega)]
            refine ⟨M, rfl, fun x hx2 => hx x (by omega) (by omega) (by omega), ?_⟩
            refine yRs_mks h ⟨g.1, by omega⟩ (fun i hi => (hz i hi).2) ⟨h99, fun _ => ⟨?_, fun j hj => ?_⟩⟩ (fun x _ x1 x2 x3 _ _ _ => hx x x1 x2 x3) (by rw [hx 98 (by decide) (by decide) (by decide)]) (by rw [hx 98 (by decide) (by decide) (by decide)]; exact h.2.2.1.2) hot h101
            · rw [h100, List.length_replicate]
              omega
            · rw [List.length_replicate] at hj
              rw [hz0 j (by omega), List.getD_eq_getElem?_getD, List.getElem?_replicate, if_pos hj]
              rfl
          | succ n2 ih =>
            intro i hi M hx h99 h100 hot h101 hz0
            rw [zb_203_55, if_pos (by omega), zgr_98_2, zbs, w32_of (z := 60 * s) (by omega) (by omega), w32_of (z := 60 * s + i) (by omega) (by omega), zsi_101 (by omega) (by omega), zbs, w32_of (by omega) (by omega)]
            have q := ih (i + 1) (by omega) (zup M 101 (60 * s + i) 0) (fun x x1 x2 x3 => by funext j; rw [zup_ne x3, hx x x1 x2 x3]) (by rw [zup_ne (by decide)]; exact h99) (by rw [zup_ne (by decide)]; exact h100) (fun j hj => by rw [zup_ne (by decide), zup_ne (by decide)]; exact hot j hj) (fun j hj => by rw [zup_ne2 (by omega)]; exact h101 j hj) (fun j hj => by
              by_cases gj : j = i
              · rw [gj, zup_self]
              · rw [zup_ne2 (by omega)]
                exact hz0 j (by omega))
            rw [Int.natCast_succ] at q
            exact q
    · rw [if_pos (zB_z.mpr g2), if_neg (fun q => g2 q.2.1)]
      exact ⟨m, rfl, yFr_rfl, fun _ => h, fun q => absurd q.2.1 g2⟩
  · rw [if_pos (zB_z.mpr g), if_neg (by omega)]
    exact ⟨m, rfl, yFr_rfl, fun _ => h, fun q => absurd q.1 (by omega)⟩
theorem yr_206 (h : yRs m w b c n e W F Z) (hz : yFz F Z) (s : Int) : ∃ m', zmD zP (d + 3) 206 [zr 98, zi s] (zW L m) = some (some (zi (if 0 ≤ s ∧ s < 4 then (if F s = -1 then -11 else (Z s).length) else -2)), zW L m') ∧ yFr 98 117 m m' ∧ (¬ (0 ≤ s ∧ s < 4) → yRs m' w b c n e W F Z) ∧ (0 ≤ s ∧ s < 4 → (F s = -1 → yRs m' w b c n 1 W F Z) ∧ (F s ≠ -1 → yRs m' w b c n e W (yUi F s (-1)) (yUp Z s []))) := by
  rw [zen_206, zb_206_0, zk_204, zbs, zmG_v, zb_206_4]
  by_cases g : 0 ≤ s ∧ s ≤ 3
  · have gg : 0 ≤ s ∧ s < 4 := ⟨g.1, by omega⟩
    obtain ⟨k1, k2⟩ := yRs_sh h gg
    have kz := (hz s gg).1
    rw [if_neg (fun q => zB_z.mp q g), if_pos gg, zgr_98_0, zbs, zai_99 g.1 (by omega), zbs, k1]
    by_cases kf : F s = -1
    · rw [if_pos (by omega), if_pos kf, zcv_98, zk_205 (d + 1) 1 (by decide) (by decide), zbs, zmG_v, zb_206_24]
      exact ⟨_, rfl, yFr_98, fun q => absurd gg q, fun _ => ⟨fun _ => yRs_found h 1, fun q => absurd kf q⟩⟩
    · rw [if_neg (by omega), if_neg kf, zbs, zsi_99 g.1 (by omega), zbs, zgr_98_1, zbs, zai_100 g.1 (by omega), zbs, zup_ne (by decide), (k2 kf).1]
      have kx : ∀ x, x ≠ 99 → zup m 99 s (-1) x = m x := fun x x1 => by
        funext j
        rw [zup_ne x1]
      refine ⟨_, rfl, fun x hx => kx x (by omega), fun q => absurd gg q, fun _ => ⟨fun q => absurd q kf, fun _ => ?_⟩⟩
      exact yRs_mks h gg (fun i hi => (hz i hi).2) ⟨zup_self, fun q => absurd rfl q⟩ (fun x _ x1 _ _ _ _ _ => kx x x1) (by rw [kx 98 (by decide)]) (by rw [kx 98 (by decide)]; exact h.2.2.1.2) (fun j hj => ⟨zup_ne2 hj, by rw [kx 100 (by decide)]⟩) (fun j _ => by rw [kx 101 (by decide)])
  · rw [if_pos (zB_z.mpr g), if_neg (by omega)]
    exact ⟨m, rfl, yFr_rfl, fun _ => h, fun q => absurd q (by omega)⟩
theorem yr_208 (h : yRs m w b c n e W F Z) (hz : yFz F Z) (s form i : Int) (g : 0 ≤ s ∧ s < 4) : ∃ m', zmD zP (d + 2) 208 [zr 98, zi s, zi form, zi i] (zW L m) = some (some (zi (if yLk (F s) form i (Z s) = 0 then 0 else -10 - yLk (F s) form i (Z s))), zW L m') ∧ yFr 98 117 m m' ∧ (yLk (F s) form i (Z s) = 0 → m' = m) ∧ (yLk (F s) form i (Z s) ≠ 0 → yRs m' w b c n (yLk (F s) form i (Z s)) W F Z) := by
  obtain ⟨k1, k2⟩ := yRs_sh h g
  have kz := hz s g
  unfold yLk
  rw [zen_208, zb_208_0, zgr_98_0, zbs, zai_99 g.1 (by omega), zbs, k1]
  by_cases kf : F s = -1
  · rw [if_pos (by omega), if_pos kf, zcv_98, zk_205 d 1 (by decide) (by decide), zbs, zmG_v, zb_208_14, if_neg (by decide)]
    exact ⟨_, rfl, yFr_98, fun q => absurd q (by decide), fun _ => yRs_found h 1⟩
  · obtain ⟨k3, k4⟩ := k2 kf
    have hl := kz.2 kf
    rw [if_neg (by omega), if_neg kf, zbs, zai_99 g.1 (by omega), zbs, k1]
    by_cases g2 : F s = form
    · rw [if_pos g2, if_neg (c := F s ≠ form) (fun q => q g2), zgr_98_1, zbs, zai_100 g.1 (by omega), zbs, k3, w32_of (by omega) (by omega), zk_201, zbs, zmG_v, zb_208_46]
      by_cases g3 : 0 ≤ i ∧ i < (Z s).length
      · rw [if_neg (fun q => zB_z.mp q (by omega)), if_pos g3, if_pos rfl, zb_208_58]
        exact ⟨m, rfl, yFr_rfl, fun _ => rfl, fun q => absurd rfl q⟩
      · rw [if_pos (zB_z.mpr (by omega)), if_neg g3, zcv_98, zk_205 d 2 (by decide) (by decide), zbs, zmG_v, zb_208_58, if_neg (by decide)]
        exact ⟨_, rfl, yFr_98, fun q => absurd q (by decide), fun _ => yRs_found h 2⟩
    · rw [if_neg g2, if_pos g2, zcv_98, zk_205 d 3 (by decide) (by decide), zbs, zmG_v, zb_208_30, if_neg (by decide)]
      exact ⟨_, rfl, yFr_98, fun q => absurd q (by decide), fun _ => yRs_found h 3⟩
theorem yr_207 (h : yRs m w b c n e W F Z) (hz : yFz F Z) (s form i v : Int) : ∃ m', zmD zP (d + 3) 207 [zr 98, zi s, zi form, zi i, zi v] (zW L m) = some (some (zi (if (0 ≤ s ∧ s < 4) ∧ (0 ≤ form ∧ form ≤ 2) then (if yLk (F s) form i (Z s) = 0 then 1 else -10 - yLk (F s) form i (Z s)) else -2)), zW L m') ∧ yFr 98 117 m m' ∧ (¬ ((0 ≤ s ∧ s < 4) ∧ (0 ≤ form ∧ form ≤ 2)) → yRs m' w b c n e W F Z) ∧ ((0 ≤ s ∧ s < 4) ∧ (0 ≤ form ∧ form ≤ 2) → (yLk (F s) form i (Z s) ≠ 0 → yRs m' w b c n (yLk (F s) form i (Z s)) W F Z) ∧ (yLk (F s) form i (Z s) = 0 → yRs m' w b c n e W F (yUp Z s ((Z s).set i.toNat (yCut form v))))) := by
  rw [zen_207, zb_207_0, zk_204, zbs, zmG_v, zb_207_4]
  by_cases g0 : 0 ≤ s ∧ s ≤ 3
  · have g : 0 ≤ s ∧ s < 4 := ⟨g0.1, by omega⟩
    rw [if_neg (fun q => zB_z.mp q g0), zk_201, zbs, zmG_v, zb_207_16]
    by_cases g2 : 0 ≤ form ∧ form ≤ 2
    · have gg : (0 ≤ s ∧ s < 4) ∧ (0 ≤ form ∧ form ≤ 2) := ⟨g, g2⟩
      obtain ⟨M, r1, r2, r3, r4⟩ := yr_208 (L := L) d h hz s form i g
      rw [if_neg (fun q => zB_z.mp q g2), zcv_98, r1, zbs, zmG_v, zb_207_29, if_pos gg]
      by_cases g3 : yLk (F s) form i (Z s) = 0
      · obtain ⟨k1, k2⟩ := yRs_sh h g
        have kz := hz s g
        have hk : F s = form ∧ 0 ≤ i ∧ i < (Z s).length := by
          unfold yLk at g3
          split at g3
          · exact absurd g3 (by decide)
          · split at g3
            · exact absurd g3 (by decide)
            · split at g3
              · rename_i q0 q1 q2
                exact ⟨Classical.byContradiction q1, q2⟩
              · exact absurd g3 (by decide)
        have kf : F s ≠ -1 := by omega
        obtain ⟨k3, k4⟩ := k2 kf
        have hl := kz.2 kf
        rw [r3 g3, if_pos g3, if_pos rfl, if_pos g3, zgr_98_2, zbs, zk_209, zbs, zmG_v, zb_207_55, w32_of (z := 60 * s) (by omega) (by omega), w32_of (z := 60 * s + i) (by omega) (by omega), zsi_101 (by omega) (by omega), zbs]
        have hc : (if form = 0 then z_i2b v else if form = 1 then z_i2s v else v) = yCut form v := rfl
        rw [hc]
        have kx : ∀ x, x ≠ 101 → zup m 101 (60 * s + i) (yCut form v) x = m x := fun x x1 => by
          funext j
          rw [zup_ne x1]
        refine ⟨_, rfl, fun x hx => kx x (by omega), fun q => absurd gg q, fun _ => ⟨fun q => absurd g3 q, fun _ => ?_⟩⟩
        have q := yRs_mks (m' := zup m 101 (60 * s + i) (yCut form v)) (s := s) (f := F s) (z := (Z s).set i.toNat (yCut form v)) (e' := e) h g (fun i hi => (hz i hi).2) ⟨by rw [kx 99 (by decide)]; exact k1, fun _ => ⟨?_, fun j hj => ?_⟩⟩ (fun x _ _ _ x3 _ _ _ => kx x x3) (by rw [kx 98 (by decide)]) (by rw [kx 98 (by decide)]; exact h.2.2.1.2) (fun j _ => ⟨by rw [kx 99 (by decide)], by rw [kx 100 (by decide)]⟩) (fun j hj => zup_ne2 (by omega))
        · rw [yUi_same] at q
          exact q
        · rw [kx 100 (by decide), List.length_set, k3]
        · rw [List.length_set] at hj
          rw [List.getD_eq_getElem?_getD, List.getElem?_set]
          by_cases gj : i.toNat = j
          · rw [if_pos gj, if_pos (by omega), show 60 * s + i = 60 * s + ((j : Nat) : Int) by omega, zup_self]
            rfl
          · rw [if_neg gj, zup_ne2 (by omega), k4 j hj, List.getD_eq_getElem?_getD]
      · have hin := yLk_in (f := F s) (form := form) (i := i) (z := Z s)
        rw [if_neg g3, if_neg (by omega), if_neg g3]
        exact ⟨M, rfl, r2, fun q => absurd gg q, fun _ => ⟨fun _ => r4 g3, fun q => absurd q g3⟩⟩
    · rw [if_pos (zB_z.mpr g2), if_neg (fun q => g2 q.2)]
      exact ⟨m, rfl, yFr_rfl, fun _ => h, fun q => absurd q.2 g2⟩
  · rw [if_pos (zB_z.mpr g0), if_neg (by omega)]
    exact ⟨m, rfl, yFr_rfl, fun _ => h, fun q => absurd q.1 (by omega)⟩
end ZR
