/-! sheets of the class -/
def ya (s : Int) : Nat := 90 + 2 * s.toNat
def yUi (F : Int → Int) (s f : Int) : Int → Int := fun i => if i = s then f else F i
theorem ys4 {s : Int} (h : 0 ≤ s ∧ s < 4) : s = 0 ∨ s = 1 ∨ s = 2 ∨ s = 3 := by omega
/-- where a sheet lies -/
def ySo (L a : Nat) : Prop := (zSH L a = (11, 0) ∧ zMR a 0 = some (a + 1) ∧ zSH L (a + 1) = (100, 60)) ∧ a + 1 < 98
theorem ySo_of {L : Nat} {s : Int} (h : 0 ≤ s ∧ s < 4) : ySo L (ya s) := by
  rcases ys4 h with e | e | e | e <;> subst e
  · exact ⟨⟨zh_90, (zw_gr (L := L) (m := fun _ _ => 0) (congrArg Prod.fst zh_90)).symm.trans zgr_90_0, zh_91⟩, by decide⟩
  · exact ⟨⟨zh_92, (zw_gr (L := L) (m := fun _ _ => 0) (congrArg Prod.fst zh_92)).symm.trans zgr_92_0, zh_93⟩, by decide⟩
  · exact ⟨⟨zh_94, (zw_gr (L := L) (m := fun _ _ => 0) (congrArg Prod.fst zh_94)).symm.trans zgr_94_0, zh_95⟩, by decide⟩
  · exact ⟨⟨zh_96, (zw_gr (L := L) (m := fun _ _ => 0) (congrArg Prod.fst zh_96)).symm.trans zgr_96_0, zh_97⟩, by decide⟩
section ZR
variable {L : Nat} {m m' : Nat → Int → Int} (D : Nat) {w : Int → List Int} {b : Int → Int} {c n e : Int} {W F : Int → Int} {Z : Int → List Int}
theorem yar {s : Int} (h : 0 ≤ s ∧ s < 4) : zAR (zW L m) 107 89 s = some (ya s) := by
  rcases ys4 h with e | e | e | e <;> subst e
  · exact zar_89_0
  · exact zar_89_1
  · exact zar_89_2
  · exact zar_89_3
section SO
variable {a : Nat} {k z : Int}
theorem ysr (h : ySo L a) : zGR (zW L m) a 11 0 = some (a + 1) := (zw_gr (congrArg Prod.fst h.1.1)).trans h.1.2.1
theorem ysi (h : ySo L a) : zGI (zW L m) a 11 k = some (m a k) := zw_gi (congrArg Prod.fst h.1.1)
theorem ysp (h : ySo L a) : zPI (zW L m) a 11 k z = some (zW L (zup m a k z)) := zw_pi (congrArg Prod.fst h.1.1) (by have := h.2; omega)
theorem ysz (h : ySo L a) (h2 : z = 0 ∨ z = 1) : zPZ (zW L m) a 11 k z = some (zW L (zup m a k z)) := zw_pz (congrArg Prod.fst h.1.1) (by have := h.2; omega) h2
theorem ysa (h : ySo L a) (h1 : 0 ≤ k) (h2 : k < 60) : zAI (zW L m) 100 (a + 1) k = some (m (a + 1) k) := zw_ai (congrArg Prod.fst h.1.2.2) h1 (by rw [h.1.2.2]; exact h2)
theorem yss (h : ySo L a) (h1 : 0 ≤ k) (h2 : k < 60) : zSI (zW L m) 100 (a + 1) k z = some (zW L (zup m (a + 1) k z)) := zw_si (congrArg Prod.fst h.1.2.2) h1 (by rw [h.1.2.2]; exact h2) (by have := h.2; omega)
theorem ysc (h : ySo L a) {K : zmK} {y : Nat} {A : List zmV} : zcv K y 11 a A (zW L m) = K y A (zW L m) := zw_cv (congrArg Prod.fst h.1.1)
theorem zk_111 (h : ySo L a) : zmD zP (D + 1) 111 [zr a] (zW L m) = some (some (zi (if m a 1 = 0 then 1 else 0)), zW L m) := by
  rw [zen_111, zb_111_0, ysi h, zbs]
  split <;> rfl
theorem zk_113 (h : ySo L a) : zmD zP (D + 1) 113 [zr a] (zW L m) = some (some (zi (m a 3)), zW L m) := by
  rw [zen_113, zb_113_0, ysi h, zbs]
theorem zk_183 (h : ySo L a) : zmD zP (D + 1) 183 [zr a] (zW L m) = some (some (zi (m a 2)), zW L m) := by
  rw [zen_183, zb_183_0, ysi h, zbs]
theorem zk_180 (h : ySo L a) : zmD zP (D + 1) 180 [zr a] (zW L m) = some (none, zW L (zup (zup m a 1 0) a 3 0)) := by
  rw [zen_180, zb_180_0, ysz h (.inl rfl), zbs, ysp h, zbs]
theorem zk_114 (h : ySo L a) {u : List Int} (h3 : m a 3 = u.length) (hl : u.length ≤ 60) (hi : ∀ i : Nat, i < u.length → m (a + 1) i = u.getD i 0) (i : Nat) (hi2 : i < u.length) : zmD zP (D + 1) 114 [zr a, zi i] (zW L m) = some (some (zi (u.getD i 0)), zW L m) := by
  rw [zen_114, zb_114_0, if_neg (by omega), ysi h, zbs, h3, if_pos (by omega), ysr h, zbs, ysa h (by omega) (by omega), zbs, hi i hi2]
theorem zk_184 (h : ySo L a) {u : List Int} (h3 : m a 3 = u.length) (hl : u.length ≤ 60) (i k : Int) : zmD zP (D + 1) 184 [zr a, zi i, zi k] (zW L m) = some (some (zi (if 0 ≤ i ∧ 0 ≤ k ∧ i + k ≤ u.length then 1 else 0)), zW L m) := by
  rw [zen_184, zb_184_0]
  by_cases g1 : i < 0
  · rw [if_pos g1, if_neg (by omega)]
  rw [if_neg g1]
  by_cases g2 : k < 0
  · rw [if_pos g2, if_neg (by omega)]
  rw [if_neg g2, ysi h, zbs, h3]
  by_cases g3 : (u.length : Int) < i
  · rw [if_pos g3, if_neg (by omega)]
  rw [if_neg g3, zbs, w32_of (by omega) (by omega)]
  by_cases g4 : (u.length : Int) - i < k
  · rw [if_pos g4, if_neg (by omega)]
  · rw [if_neg g4, if_pos (by omega)]
/-- the lowest bits that an item of a form has -/
def yCut (f v : Int) : Int := if f = 0 then z_i2b v else if f = 1 then z_i2s v else v
theorem zk_185 (h : ySo L a) {u : List Int} (h3 : m a 3 = u.length) (hl : u.length ≤ 60) (i : Nat) (hi : i < u.length) (v : Int) : zmD zP (D + 1) 185 [zr a, zi i, zi v] (zW L m) = some (none, zW L (zup m (a + 1) i (yCut (m a 2) v))) := by
  rw [zen_185, zb_185_0, if_neg (by omega), ysi h, zbs, h3, if_pos (by omega), ysr h, zbs, ysi h, zbs]
  have k43 : ∀ x : Int, zmE (zmD zP D) zc_185 (43, [some (zr a), some (zi i), some (zi v)], [zi x, zi i, zr (a + 1)], zW L m) = some (none, zW L (zup m (a + 1) i x)) := fun x => by
    rw [zb_185_43, yss h (by omega) (by omega), zbs]
  unfold yCut
  by_cases g : m a 2 = 0
  · rw [if_pos g, if_pos g, k43]
  · rw [if_neg g, if_neg g, zbs]
    by_cases g2 : m a 2 = 1
    · rw [if_pos g2, if_pos g2, k43]
    · rw [if_neg g2, if_neg g2, k43]
theorem zk_178 (h : ySo L a) (f k : Int) (hk : 0 ≤ k ∧ k ≤ 60) : ∃ m', zmD zP (D + 2) 178 [zr a, zi f, zi k] (zW L m) = some (none, zW L m') ∧ yFr a (a + 1) m m' ∧ m' a 1 = 1 ∧ m' a 2 = f ∧ m' a 3 = k ∧ ∀ i : Int, 0 ≤ i → i < 60 → m' (a + 1) i = 0 := by
  have ha := h.2
  have ek : (if (0 : Int) < (if 60 < k then 60 else k) then (if 60 < k then 60 else k) else 0) = k := by
    rw [if_neg (show ¬ 60 < k by omega)]
    split <;> omega
  rw [zen_178, zb_178_0, ysz h (.inr rfl), zbs, ysp h, zbs, zk_35, zbs, zmG_v, zb_178_18, zk_3, zbs, zmG_v, ek, zb_178_21, ysp h, zbs, ysr h, zbs, zk_21 D h.1.2.2 (by decide) (by omega), zbs, zmG_n, zb_178_32]
  have k0 : ∀ (x : Nat) (j : Int), x ≠ a + 1 → (if x = a + 1 ∧ 0 ≤ j ∧ j < ((60 : Nat) : Int) then 0 else zup (zup (zup m a 1 1) a 2 f) a 3 k x j) = zup (zup (zup m a 1 1) a 2 f) a 3 k x j := fun x j hx => if_neg (fun q => hx q.1)
  refine ⟨_, rfl, fun x hx => ?_, (k0 a 1 (by omega)).trans ?_, (k0 a 2 (by omega)).trans ?_, (k0 a 3 (by omega)).trans zup_self, fun i i1 i2 => ?_⟩
  · funext j
    refine (k0 x j (by omega)).trans ?_
    rw [zup_ne (by omega), zup_ne (by omega), zup_ne (by omega)]
  · rw [zup_ne2 (by decide), zup_ne2 (by decide), zup_self]
  · rw [zup_ne2 (by decide), zup_self]
  · exact if_pos ⟨rfl, i1, by show i < ((60 : Nat) : Int); omega⟩
end SO
theorem zk_177 (f : Int) {u : zmW} : zmD zP (D + 1) 177 [zi f] u = some (some (zi (if 0 ≤ f ∧ f ≤ 2 then 0 else 1)), u) := by
  rw [zen_177, zb_177_0, zb_177_9]
  by_cases g : f < 0
  · rw [if_pos g, if_neg (by omega)]
  · rw [if_neg g]
    by_cases g2 : f < 3
    · rw [if_pos g2, if_pos (by omega)]
    · rw [if_neg g2, if_neg (by omega)]
theorem zk_110 (s : Int) : zmD zP (D + 1) 110 [zr 0, zi s] (zW L m) = some (some (zi (if 0 ≤ s ∧ s < 4 then 0 else 1)), zW L m) := by
  rw [zen_110, zb_110_0, zb_110_13, zgr_0_12, zbs, zlen_89, zbs]
  by_cases g : s < 0
  · rw [if_pos g, if_neg (by omega)]
  · rw [if_neg g]
    by_cases g2 : s < 4
    · rw [if_pos g2, if_pos (by omega)]
    · rw [if_neg g2, if_neg (by omega)]
theorem zk_112 (k : Int) (hk : 0 ≤ k ∧ k ≤ 5) : zmD zP (D + 1) 112 [zr 0, zi k] (zW L m) = some (some (zi (-10 - k)), zW L (zup m 0 15 k)) := by
  rw [zen_112, zb_112_0, zpi_0, zbs, w32_of (by omega) (by omega)]
/-! the state behind an act on sheets -/
theorem yCs_sh (h : yCs m w b c n e W F Z) {s : Int} (hs : 0 ≤ s ∧ s < 4) : yShC m (ya s) (F s) (Z s) := by
  obtain ⟨-, -, -, -, -, -, g0, g1, g2, g3⟩ := h
  rcases ys4 hs with e | e | e | e <;> subst e
  · exact g0
  · exact g1
  · exact g2
  · exact g3
theorem yShC_up {s i : Int} (hs : 0 ≤ s ∧ s < 4) (hi : 0 ≤ i ∧ i < 4) {f : Int} {z : List Int} (hn : yShC m' (ya s) f z) (h : yShC m (ya i) (F i) (Z i)) (q : ∀ x, x ≠ 0 → x ≠ ya s → x ≠ ya s + 1 → m' x = m x) : yShC m' (ya i) (yUi F s f i) (yUp Z s z i) := by
  unfold yUi yUp
  by_cases g : i = s
  · rw [if_pos g, if_pos g, g]
    exact hn
  · rw [if_neg g, if_neg g]
    refine yShC_fr h (q _ ?_ ?_ ?_) (q _ ?_ ?_ ?_) <;> unfold ya <;> omega
/-- a sheet (and perhaps the latest finding) is new -/
theorem yCs_mks (h : yCs m w b c n e W F Z) {s f e' : Int} {z : List Int} (hs : 0 ≤ s ∧ s < 4) (hn : yShC m' (ya s) f z) (q : ∀ x, x ≠ 0 → x ≠ ya s → x ≠ ya s + 1 → m' x = m x) (q0 : ∀ j, j ≠ 15 → m' 0 j = m 0 j) (q15 : m' 0 15 = e') : yCs m' w b c n e' W (yUi F s f) (yUp Z s z) := by
  have hsh := fun (i : Int) (hi : 0 ≤ i ∧ i < 4) => yShC_up (m' := m') hs hi hn (yCs_sh h hi) q
  have kx : ∀ x, x ≠ 0 → ¬ (90 ≤ x ∧ x ≤ 97) → m' x = m x := fun x x1 x2 => q x x1 (by unfold ya; omega) (by unfold ya; omega)
  obtain ⟨a0, ⟨b1, b2, b3⟩, c0, d1, e1, f1, -⟩ := h
  refine ⟨⟨yTw_c a0.1 (kx 2 (by decide) (by decide)) (kx 3 (by decide) (by decide)), yTw_c a0.2.1 (kx 4 (by decide) (by decide)) (kx 5 (by decide) (by decide)), yTw_c a0.2.2 (kx 6 (by decide) (by decide)) (kx 7 (by decide) (by decide))⟩, ⟨yGd2_c b1 (kx 8 (by decide) (by decide)) (kx 9 (by decide) (by decide)) (fun x hx => kx x (by omega) (by omega)), by rw [kx 9 (by decide) (by decide)]; exact b2, by rw [kx 8 (by decide) (by decide)]; exact b3⟩, ⟨by rw [q0 13 (by decide)]; exact c0.1, by rw [q0 14 (by decide)]; exact c0.2.1, q15⟩, ?_, ?_, by rw [kx 19 (by decide) (by decide)]; exact f1, hsh 0 (by decide), hsh 1 (by decide), hsh 2 (by decide), hsh 3 (by decide)⟩
  · rw [q0 16 (by decide)]
    refine d1.imp id fun k => ⟨k.1, ?_⟩
    unfold yNm2 yMl
    rw [kx 13 (by decide) (by decide), kx (13 + 1) (by decide) (by decide), kx (13 + 2) (by decide) (by decide), kx (13 + 3) (by decide) (by decide)]
    exact k.2
  · refine yFix_fr (P := fun x _ => ¬ (x = 11 ∨ x = 27 ∨ x = 18 ∨ x = 25 ∨ 1000 ≤ x)) e1 (fun x j hx => ?_) (fun x j hx hn => hn hx)
    have hx' : x = 11 ∨ x = 27 ∨ x = 18 ∨ x = 25 ∨ 1000 ≤ x := Classical.byContradiction hx
    rw [kx x (by omega) (by omega)]
theorem yUi_same {s : Int} : yUi F s (F s) = F := by
  funext i
  unfold yUi
  by_cases g : i = s
  · rw [if_pos g, g]
  · rw [if_neg g]
theorem yUp_same {s : Int} : yUp Z s (Z s) = Z := by
  funext i
  unfold yUp
  by_cases g : i = s
  · rw [if_pos g, g]
  · rw [if_neg g]
/-- a finding alone -/
theorem yCs_found (h : yCs m w b c n e W F Z) (k : Int) : yCs (zup m 0 15 k) w b c n k W F Z := by
  have q := yCs_mks (m' := zup m 0 15 k) (s := 0) (f := F 0) (z := Z 0) (e' := k) h (by decide) ?_ (fun x x0 _ _ => by funext j; rw [zup_ne x0]) (fun j hj => zup_ne2 hj) zup_self
  · rw [yUi_same, yUp_same] at q
    exact q
  · refine yShC_fr (yCs_sh h (by decide)) ?_ ?_ <;> (funext j; exact zup_ne (by decide))
theorem yFr_0 {k z : Int} : yFr 0 97 m (zup m 0 k z) := fun x hx => by
  funext j
  rw [zup_ne (by omega)]
theorem yk_176 (h : yCs m w b c n e W F Z) (s f k : Int) : ∃ m', zmD zP (D + 3) 176 [zr 0, zi s, zi f, zi k] (zW L m) = some (some (zi (if (0 ≤ s ∧ s < 4) ∧ (0 ≤ f ∧ f ≤ 2) ∧ k ≤ 60 then (if k < 0 then -15 else k) else -2)), zW L m') ∧ yFr 0 97 m m' ∧ (¬ ((0 ≤ s ∧ s < 4) ∧ (0 ≤ f ∧ f ≤ 2) ∧ k ≤ 60) → yCs m' w b c n e W F Z) ∧ ((0 ≤ s ∧ s < 4) ∧ (0 ≤ f ∧ f ≤ 2) ∧ k ≤ 60 → (k < 0 → yCs m' w b c n 5 W F Z) ∧ (0 ≤ k → yCs m' w b c n e W (yUi F s f) (yUp Z s (List.replicate k.toNat 0)))) := by
  rw [zen_176, zb_176_0, zcv_0, zk_110, zbs, zmG_v, zb_176_5]
  by_cases g : 0 ≤ s ∧ s < 4
  · rw [if_pos g, if_pos rfl, zk_177, zbs, zmG_v, zb_176_12]
    by_cases g2 : 0 ≤ f ∧ f ≤ 2
    · rw [if_pos g2, if_pos rfl]
      by_cases g3 : 60 < k
      · rw [if_pos g3, if_neg (by omega)]
        exact ⟨m, rfl, yFr_rfl, fun _ => h, fun q => absurd q.2.2 (by omega)⟩
      · have gg : (0 ≤ s ∧ s < 4) ∧ (0 ≤ f ∧ f ≤ 2) ∧ k ≤ 60 := ⟨g, g2, by omega⟩
        rw [if_neg g3, if_pos gg]
        by_cases g4 : k < 0
        · rw [if_pos g4, if_pos g4, zcv_0, zk_112 (D + 1) 5 (by decide), zbs, zmG_v, zb_176_33]
          exact ⟨_, rfl, yFr_0, fun q => absurd gg q, fun _ => ⟨fun _ => yCs_found h 5, fun q => by omega⟩⟩
        · obtain ⟨M, r1, r2, r3, r4, r5, r6⟩ := zk_178 (L := L) (m := m) D (ySo_of g) f k ⟨by omega, by omega⟩
          rw [if_neg g4, if_neg g4, zgr_0_12, zbs, yar g, zbs, ysc (ySo_of g), r1, zbs, zmG_n, zb_176_45]
          have ha : ya s < 97 ∧ 90 ≤ ya s := by unfold ya; omega
          refine ⟨M, rfl, yFr_wd r2 (by omega) (by omega), fun q => absurd gg q, fun _ => ⟨fun q => absurd q g4, fun _ => ?_⟩⟩
          refine yCs_mks h g (.inr ⟨g2, r3, r4, ?_, ?_, fun i hi => ?_⟩) (fun x _ x1 x2 => r2 x (by omega)) (fun j _ => by rw [r2 0 (by omega)]) (by rw [r2 0 (by omega)]; exact h.2.2.1.2.2)
          · rw [r5, List.length_replicate]
            omega
          · rw [List.length_replicate]
            omega
          · rw [List.length_replicate] at hi
            rw [r6 i (by omega) (by omega), List.getD_eq_getElem?_getD, List.getElem?_replicate, if_pos hi]
            rfl
    · rw [if_neg g2, if_neg (by decide), if_neg (fun q => g2 q.2.1)]
      exact ⟨m, rfl, yFr_rfl, fun _ => h, fun q => absurd q.2.1 g2⟩
  · rw [if_neg g, if_neg (by decide), if_neg (fun q => g q.1)]
    exact ⟨m, rfl, yFr_rfl, fun _ => h, fun q => absurd q.1 g⟩
theorem yk_179 (h : yCs m w b c n e W F Z) (s : Int) : ∃ m', zmD zP (D + 2) 179 [zr 0, zi s] (zW L m) = some (some (zi (if 0 ≤ s ∧ s < 4 then (if F s = -1 then -11 else (Z s).length) else -2)), zW L m') ∧ yFr 0 97 m m' ∧ (¬ (0 ≤ s ∧ s < 4) → yCs m' w b c n e W F Z) ∧ (0 ≤ s ∧ s < 4 → (F s = -1 → yCs m' w b c n 1 W F Z) ∧ (F s ≠ -1 → yCs m' w b c n e W (yUi F s (-1)) (yUp Z s []))) := by
  rw [zen_179, zb_179_0, zcv_0, zk_110, zbs, zmG_v, zb_179_5]
  by_cases g : 0 ≤ s ∧ s < 4
  · have hsh := yCs_sh h g
    rw [if_pos g, if_pos rfl, zgr_0_12, zbs, yar g, zbs, ysc (ySo_of g), zk_111 _ (ySo_of g), zbs, zmG_v, zb_179_20, if_pos g]
    rcases hsh with ⟨k1, k2⟩ | ⟨k1, k2, k3, k4, k5, k6⟩
    · rw [if_pos k2, if_neg (by decide), if_pos k1, zcv_0, zk_112 D 1 (by decide), zbs, zmG_v, zb_179_28]
      exact ⟨_, rfl, yFr_0, fun q => absurd g q, fun _ => ⟨fun _ => yCs_found h 1, fun q => absurd k1 q⟩⟩
    · have kf : F s ≠ -1 := by omega
      rw [k2, if_neg (c := (1 : Int) = 0) (by decide), if_pos rfl, if_neg kf, zgr_0_12, zbs, yar g, zbs, ysc (ySo_of g), zk_113 _ (ySo_of g), zbs, zmG_v, zb_179_38, zgr_0_12, zbs, yar g, zbs, ysc (ySo_of g), zk_180 _ (ySo_of g), zbs, zmG_n, zb_179_48, k4]
      have ha : ya s < 97 ∧ 90 ≤ ya s := by unfold ya; omega
      have kx : ∀ x, x ≠ ya s → zup (zup m (ya s) 1 0) (ya s) 3 0 x = m x := fun x x1 => by
        funext j
        rw [zup_ne x1, zup_ne x1]
      refine ⟨_, rfl, fun x hx => kx x (by omega), fun q => absurd g q, fun _ => ⟨fun q => absurd q kf, fun _ => ?_⟩⟩
      exact yCs_mks h g (.inl ⟨rfl, by rw [zup_ne2 (by decide), zup_self]⟩) (fun x _ x1 _ => kx x x1) (fun j _ => by rw [kx 0 (by omega)]) (by rw [kx 0 (by omega)]; exact h.2.2.1.2.2)
  · rw [if_neg g, if_neg (by decide), if_neg g]
    exact ⟨m, rfl, yFr_rfl, fun _ => h, fun q => absurd q g⟩
/-- which finding an item meets; 0: none -/
def yLk (f form i : Int) (z : List Int) : Int := if f = -1 then 1 else if f ≠ form then 3 else if 0 ≤ i ∧ i < z.length then 0 else 2
theorem yk_182 (h : yCs m w b c n e W F Z) {s : Int} (g : 0 ≤ s ∧ s < 4) (form i : Int) : zmD zP (D + 2) 182 [zr (ya s), zi form, zi i] (zW L m) = some (some (zi (yLk (F s) form i (Z s))), zW L m) := by
  have hsh := yCs_sh h g
  unfold yLk
  rw [zen_182, zb_182_0, ysc (ySo_of g), zk_111 _ (ySo_of g), zbs, zmG_v, zb_182_4]
  rcases hsh with ⟨k1, k2⟩ | ⟨k1, k2, k3, k4, k5, k6⟩
  · rw [if_pos k2, if_neg (by decide), if_pos k1]
  · have kf : F s ≠ -1 := by omega
    rw [k2, if_neg (c := (1 : Int) = 0) (by decide), if_pos rfl, if_neg kf, ysc (ySo_of g), zk_183 _ (ySo_of g), zbs, zmG_v, zb_182_13, k3]
    by_cases g2 : F s = form
    · rw [if_pos g2, if_neg (fun q => q g2), ysc (ySo_of g), zk_184 D (ySo_of g) k4 k5, zbs, zmG_v, zb_182_25]
      by_cases g3 : 0 ≤ i ∧ i < (Z s).length
      · rw [if_pos (show 0 ≤ i ∧ (0 : Int) ≤ 1 ∧ i + 1 ≤ ((Z s).length : Int) by omega), if_neg (c := (1 : Int) = 0) (by decide), if_pos g3]
      · rw [if_neg (show ¬ (0 ≤ i ∧ (0 : Int) ≤ 1 ∧ i + 1 ≤ ((Z s).length : Int)) by omega), if_pos rfl, if_neg g3]
    · rw [if_neg g2, if_pos g2]
theorem yLk_in {f form i : Int} {z : List Int} : 0 ≤ yLk f form i z ∧ yLk f form i z ≤ 5 := by
  unfold yLk
  split
  · decide
  · split
    · decide
    · split <;> decide
theorem yk_181 (h : yCs m w b c n e W F Z) (s form i v : Int) : ∃ m', zmD zP (D + 3) 181 [zr 0, zi s, zi form, zi i, zi v] (zW L m) = some (some (zi (if (0 ≤ s ∧ s < 4) ∧ (0 ≤ form ∧ form ≤ 2) then (if yLk (F s) form i (Z s) = 0 then 1 else -10 - yLk (F s) form i (Z s)) else -2)), zW L m') ∧ yFr 0 97 m m' ∧ (¬ ((0 ≤ s ∧ s < 4) ∧ (0 ≤ form ∧ form ≤ 2)) → yCs m' w b c n e W F Z) ∧ ((0 ≤ s ∧ s < 4) ∧ (0 ≤ form ∧ form ≤ 2) → (yLk (F s) form i (Z s) ≠ 0 → yCs m' w b c n (yLk (F s) form i (Z s)) W F Z) ∧ (yLk (F s) form i (Z s) = 0 → yCs m' w b c n e W F (yUp Z s ((Z s).set i.toNat (yCut form v))))) := by
  rw [zen_181, zb_181_0, zcv_0, zk_110, zbs, zmG_v, zb_181_5]
  by_cases g : 0 ≤ s ∧ s < 4
  · rw [if_pos g, if_pos rfl, zk_177, zbs, zmG_v, zb_181_12]
    by_cases g2 : 0 ≤ form ∧ form ≤ 2
    · have gg : (0 ≤ s ∧ s < 4) ∧ (0 ≤ form ∧ form ≤ 2) := ⟨g, g2⟩
      rw [if_pos g2, if_pos rfl, if_pos gg, zgr_0_12, zbs, yar g, zbs, yk_182 D h g, zbs, zmG_v, zb_181_29]
      by_cases g3 : yLk (F s) form i (Z s) = 0
      · rcases yCs_sh h g with ⟨k1, k2⟩ | ⟨k1, k2, k3, k4, k5, k6⟩
        · exfalso
          unfold yLk at g3
          rw [if_pos k1] at g3
          exact absurd g3 (by decide)
        · have kf : F s ≠ -1 := by omega
          have hk : F s = form ∧ 0 ≤ i ∧ i < (Z s).length := by
            unfold yLk at g3
            rw [if_neg kf] at g3
            split at g3
            · exact absurd g3 (by decide)
            · split at g3
              · rename_i q1 q2
                exact ⟨Classical.byContradiction q1, q2⟩
              · exact absurd g3 (by decide)
          obtain ⟨hk1, hk2⟩ := hk
          subst hk1
          have ha : ya s < 97 ∧ 90 ≤ ya s := by unfold ya; omega
          have hz := zk_185 (L := L) (m := m) (D + 1) (ySo_of g) k4 k5 i.toNat (by omega) v
          rw [show ((i.toNat : Nat) : Int) = i by omega] at hz
          rw [if_pos g3, if_pos g3, zgr_0_12, zbs, yar g, zbs, ysc (ySo_of g), hz, zbs, zmG_n, zb_181_55, k3]
          have kx : ∀ x, x ≠ ya s + 1 → zup m (ya s + 1) i (yCut (F s) v) x = m x := fun x x1 => by
            funext j
            rw [zup_ne x1]
          refine ⟨_, rfl, fun x hx => kx x (by omega), fun q => absurd gg q, fun _ => ⟨fun q => absurd g3 q, fun _ => ?_⟩⟩
          have q := yCs_mks (m' := zup m (ya s + 1) i (yCut (F s) v)) (s := s) (f := F s) (z := (Z s).set i.toNat (yCut (F s) v)) (e' := e) h g (.inr ⟨k1, ?_, ?_, ?_, ?_, fun j hj => ?_⟩) (fun x _ _ x2 => kx x x2) (fun j _ => by rw [kx 0 (by omega)]) (by rw [kx 0 (by omega)]; exact h.2.2.1.2.2)
          · rw [yUi_same] at q
            exact q
          · rw [kx (ya s) (by omega)]
            exact k2
          · rw [kx (ya s) (by omega)]
            exact k3
          · rw [kx (ya s) (by omega), List.length_set]
            exact k4
          · rw [List.length_set]
            exact k5
          · rw [List.length_set] at hj
            rw [List.getD_eq_getElem?_getD, List.getElem?_set]
            by_cases gj : i.toNat = j
            · rw [if_pos gj, if_pos (by omega), show i = ((j : Nat) : Int) by omega, zup_self]
              rfl
            · rw [if_neg gj, zup_ne2 (by omega), k6 j hj, List.getD_eq_getElem?_getD]
      · rw [if_neg g3, if_neg g3, zcv_0, zk_112 (D + 1) _ yLk_in, zbs, zmG_v, zb_181_42]
        exact ⟨_, rfl, yFr_0, fun q => absurd gg q, fun _ => ⟨fun _ => yCs_found h _, fun q => absurd q g3⟩⟩
    · rw [if_neg g2, if_neg (by decide), if_neg (fun q => g2 q.2)]
      exact ⟨m, rfl, yFr_rfl, fun _ => h, fun q => absurd q.2 g2⟩
  · rw [if_neg g, if_neg (by decide), if_neg (fun q => g q.1)]
    exact ⟨m, rfl, yFr_rfl, fun _ => h, fun q => absurd q.1 g⟩
end ZR
