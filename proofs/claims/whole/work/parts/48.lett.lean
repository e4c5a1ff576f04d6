/-! letters, stages of sayings of the class -/
def tWh (i : Int) : Int := [80, 78, 66, 82, 81, 75].getD i.toNat 0
def tBk (i : Int) : Int := [112, 110, 98, 114, 113, 107].getD i.toNat 0
/-- the texts of letters as they are -/
def yTxt (m : Nat → Int → Int) : Prop := (m (zXB + 10) 1 = 0 ∧ ∀ i, m (zXB + 20) i = tWh i) ∧ (m (zXB + 11) 1 = 0 ∧ ∀ i, m (zXB + 21) i = tBk i)
theorem yTxt_fr {m m' : Nat → Int → Int} {lo hi : Nat} (h : yTxt m) (hf : yFr lo hi m m') (hi2 : hi < 1000) : yTxt m' := by
  have q : ∀ j, m' (zXB + j) = m (zXB + j) := fun j => hf _ (.inr (by unfold zXB; omega))
  unfold yTxt
  rw [q, q, q, q]
  exact h
theorem yTab_fr {m m' : Nat → Int → Int} {lo hi : Nat} (h : yTab m) (hf : yFr lo hi m m') (hi2 : hi < 1000) : yTab m' := by
  have q : ∀ j, m' (zXB + j) = m (zXB + j) := fun j => hf _ (.inr (by unfold zXB; omega))
  unfold yTab
  rw [q, q, q, q, q]
  exact h
def yMan (b : Int) : Int := if zman b ≤ 6 then zman b else 8 - zman b
def yIx (f : Int → Int) (x : Int) : Int := if f 0 = x then 0 else if f 1 = x then 1 else if f 2 = x then 2 else if f 3 = x then 3 else if f 4 = x then 4 else if f 5 = x then 5 else -1
theorem yIx_in {f : Int → Int} {x : Int} : -1 ≤ yIx f x ∧ yIx f x ≤ 5 := by
  unfold yIx
  repeat (split)
  all_goals omega
theorem z_byt : ∀ b : Nat, b < 256 → z_i2c b = b ∧ (if yIx tWh (z_i2b b) < 0 then -1 - yIx tBk (z_i2b b) else yIx tWh (z_i2b b) + 1) = yMan b := by decide +kernel
theorem z_chr : ∀ i : Nat, i < 6 → z_i2c (z_and (tWh i) 255) = zlet ((i : Int) + 1) ∧ z_i2c (z_and (tBk i) 255) = zlet ((i : Int) + 1) + 32 := by decide +kernel
section ZR
variable {L : Nat} {m : Nat → Int → Int} {k : Int} (D : Nat)
set_option maxRecDepth 20000 in
theorem zhx_10 : zSH L (zXB + 10) = (60, 0) := rfl
set_option maxRecDepth 20000 in
theorem zhx_11 : zSH L (zXB + 11) = (60, 0) := rfl
set_option maxRecDepth 20000 in
theorem zhx_20 : zSH L (zXB + 20) = (120, 6) := rfl
set_option maxRecDepth 20000 in
theorem zhx_21 : zSH L (zXB + 21) = (120, 6) := rfl
set_option maxRecDepth 20000 in
theorem zgrx_10 : zGR (zW L m) (zXB + 10) 60 0 = some (zXB + 20) := (zw_gr (congrArg Prod.fst zhx_10)).trans rfl
set_option maxRecDepth 20000 in
theorem zgrx_11 : zGR (zW L m) (zXB + 11) 60 0 = some (zXB + 21) := (zw_gr (congrArg Prod.fst zhx_11)).trans rfl
/-- a text of the class's letters: f -/
def yTx (L : Nat) (m : Nat → Int → Int) (x e : Nat) (f : Int → Int) : Prop := (zSH L x = (60, 0) ∧ zMR x 0 = some e ∧ zSH L e = (120, 6)) ∧ m x 1 = 0 ∧ ∀ i, m e i = f i
theorem yTx_w (h : yTxt m) : yTx L m (zXB + 10) (zXB + 20) tWh := ⟨⟨zhx_10, (zw_gr (L := L) (m := m) (congrArg Prod.fst zhx_10)).symm.trans zgrx_10, zhx_20⟩, h.1⟩
theorem yTx_b (h : yTxt m) : yTx L m (zXB + 11) (zXB + 21) tBk := ⟨⟨zhx_11, (zw_gr (L := L) (m := m) (congrArg Prod.fst zhx_11)).symm.trans zgrx_11, zhx_21⟩, h.2⟩
section ZT
variable {x e : Nat} {f : Int → Int}
theorem ytr (h : yTx L m x e f) : zGR (zW L m) x 60 0 = some e := (zw_gr (congrArg Prod.fst h.1.1)).trans h.1.2.1
theorem yti (h : yTx L m x e f) : zGI (zW L m) x 60 1 = some 0 := (zw_gi (congrArg Prod.fst h.1.1)).trans (by rw [h.2.1])
theorem yta (h : yTx L m x e f) (h1 : 0 ≤ k) (h2 : k < 6) : zAI (zW L m) 120 e k = some (f k) := (zw_ai (congrArg Prod.fst h.1.2.2) h1 (by rw [h.1.2.2]; exact h2)).trans (by rw [h.2.2])
theorem ytl (h : yTx L m x e f) : zLen (zW L m) e = some 6 := (zw_len (by rw [h.1.2.2]; decide) (by rw [h.1.2.2]; decide)).trans (by rw [h.1.2.2]; rfl)
theorem ytc (h : yTx L m x e f) {K : zmK} {y : Nat} {A : List zmV} : zcv K y 60 x A (zW L m) = K y A (zW L m) := zw_cv (congrArg Prod.fst h.1.1)
theorem zk_30 (h : yTx L m x e f) : zmD zP (D + 1) 30 [zr x] (zW L m) = some (some (zi 1), zW L m) := by
  rw [zen_30, zb_30_0, if_neg (by decide), yti h, zbs, if_pos rfl]
theorem zk_32 (h : yTx L m x e f) : zmD zP (D + 1) 32 [zr x] (zW L m) = some (some (zi 0), zW L m) := by
  rw [zen_32, zb_32_0, if_neg (by decide), yti h, zbs, if_pos rfl]
theorem zk_31 (h : yTx L m x e f) : zmD zP (D + 2) 31 [zr x] (zW L m) = some (some (zi 6), zW L m) := by
  rw [zen_31, zb_31_0, ytr h, zbs, ytl h, zbs, ytc h, zk_32 D h, zbs, zmG_v, zb_31_9]
  rfl
theorem zk_36 (h : yTx L m x e f) (b : Int) : zmD zP (D + 1) 36 [zr e, zi b, zi 0, zi 6] (zW L m) = some (some (zi (yIx f (z_i2b b))), zW L m) := by
  have st : ∀ i : Int, 0 ≤ i → i < 6 → zmE (zmD zP D) zc_36 (7, [some (zr e), some (zi b), some (zi 0), some (zi 6), some (zi (z_i2b b)), some (zi i)], [], zW L m) = if f i = z_i2b b then some (some (zi i), zW L m) else zmE (zmD zP D) zc_36 (7, [some (zr e), some (zi b), some (zi 0), some (zi 6), some (zi (z_i2b b)), some (zi (i + 1))], [], zW L m) := fun i h1 h2 => by
    rw [zb_36_7, if_pos h2, yta h h1 h2, zbs, w32_of (by omega) (by omega)]
  rw [zen_36, zb_36_0, st 0 (by decide) (by decide), show (0 : Int) + 1 = 1 from rfl, st 1 (by decide) (by decide), show (1 : Int) + 1 = 2 from rfl, st 2 (by decide) (by decide), show (2 : Int) + 1 = 3 from rfl, st 3 (by decide) (by decide), show (3 : Int) + 1 = 4 from rfl, st 4 (by decide) (by decide), show (4 : Int) + 1 = 5 from rfl, st 5 (by decide) (by decide), show (5 : Int) + 1 = 6 from rfl, zb_36_7, if_neg (c := (6 : Int) < 6) (by decide)]
  unfold yIx
  repeat' split
  all_goals rfl
theorem zk_3 (x y : Int) {w : zmW} : zmD zP (D + 1) 3 [zi x, zi y] w = some (some (zi (if x < y then y else x)), w) := by
  rw [zen_3, zb_3_0]
  split <;> rfl
theorem zk_35 (x y : Int) {w : zmW} : zmD zP (D + 1) 35 [zi x, zi y] w = some (some (zi (if y < x then y else x)), w) := by
  rw [zen_35, zb_35_0]
  split <;> rfl
theorem zk_28 (h : yTx L m x e f) (b : Int) (hb : 0 ≤ b ∧ b < 256) : zmD zP (D + 4) 28 [zr x, zi b] (zW L m) = some (some (zi (yIx f (z_i2b b))), zW L m) := by
  have e34 : zmD zP (D + 1) 34 [zi b] (zW L m) = some (some (zi 1), zW L m) := by
    rw [zen_34, zb_34_0, if_neg (by omega), if_neg (by omega)]
  have e33 : zmD zP (D + 2) 33 [zr e, zi b, zi 0, zi 6] (zW L m) = some (some (zi (yIx f (z_i2b b))), zW L m) := by
    rw [zen_33, zb_33_0, e34, zbs, zmG_v, zb_33_4, if_neg (by decide), zk_3, zbs, zmG_v, zb_33_14, ytl h, zbs, zk_35, zbs, zmG_v]
    show zmE _ zc_33 (21, [some (zr e), some (zi b), some (zi 0), some (zi 6)], [zi 6], _) = _
    rw [zb_33_21, if_pos (by decide), zk_36 D h b, zbs, zmG_v, zb_33_36]
  rw [zen_28, zb_28_0, ytc h, zen_29, zb_29_0, ytc h, zk_30 (D + 1) h, zbs, zmG_v, zb_29_4, if_neg (by decide), ytr h, zbs, ytc h, zk_31 D h, zbs, zmG_v, zb_29_17, e33, zbs, zmG_v, zb_29_20, zbs, zmG_v, zb_28_6]
theorem zk_67 {i n : Int} (h : 0 ≤ i ∧ i < n) {w : zmW} : zmD zP (D + 1) 67 [zi i, zi n] w = some (none, w) := by
  refine (show zmD zP (D + 1) 67 [zi i, zi n] w = zmE (zmD zP D) (fun _ => zm_chk) (0, [some (zi i), some (zi n)], [], w) from rfl).trans (zmE_ret ?_)
  show (if 0 ≤ i ∧ i < n then some (Sum.inr ((none : Option zmV), w)) else none) = _
  rw [if_pos h]
theorem zk_65 (h : yTx L m x e f) (i : Int) (hi : 0 ≤ i ∧ i < 6) (hc : 0 ≤ z_i2c (z_and (f i) 255) ∧ z_i2c (z_and (f i) 255) < 65536) : zmD zP (D + 3) 65 [zr x, zi i] (zW L m) = some (some (zi (z_i2c (z_and (f i) 255))), zW L m) := by
  rw [zen_65, zb_65_0, ytc h, zk_30 (D + 1) h, zbs, zmG_v, zb_65_4, if_neg (by decide), ytr h, zbs, zen_66, zb_66_0, ytl h, zbs, zk_67 _ ⟨hi.1, hi.2⟩, zbs, zmG_n, zb_66_6, yta h hi.1 hi.2, zbs, if_pos hc, zbs, zmG_v, zb_65_15, if_pos hc]
end ZT
/-- the byte of a man of the class -/
def yLet (v : Int) : Int := if 0 < v ∧ v ≤ 6 then zlet v else if v < 0 ∧ -6 ≤ v then zlet (-v) + 32 else 0
theorem zk_64 (h : yTxt m) (v : Int) (hv : -6 ≤ v ∧ v ≤ 6) : zmD zP (D + 4) 64 [zi v] (zW L m) = some (some (zi (yLet v)), zW L m) := by
  rw [zen_64, zb_64_0]
  unfold yLet
  by_cases g : 0 < v
  · have e := (z_chr (v - 1).toNat (by omega)).1
    rw [show (((v - 1).toNat : Nat) : Int) = v - 1 by omega, show v - 1 + 1 = v by omega] at e
    have hl := zlet_in v
    rw [if_pos g, if_neg (by omega), w32_of (by omega) (by omega), ytc (yTx_w h), zk_65 D (yTx_w h) (v - 1) (by omega) (by rw [e]; omega), zbs, zmG_v, zb_64_18, e, if_pos (by omega)]
  · rw [if_neg g, zb_64_19, if_neg (show ¬ (0 < v ∧ v ≤ 6) by omega)]
    by_cases g2 : v < 0
    · have e := (z_chr (-1 - v).toNat (by omega)).2
      rw [show (((-1 - v).toNat : Nat) : Int) = -1 - v by omega, show -1 - v + 1 = -v by omega] at e
      have hl := zlet_in (-v)
      rw [if_pos g2, if_neg (by omega), w32_of (by omega) (by omega), ytc (yTx_b h), zk_65 D (yTx_b h) (-1 - v) (by omega) (by rw [e]; omega), zbs, zmG_v, zb_64_37, e, if_pos (by omega)]
    · rw [if_neg g2, if_neg (by omega)]
theorem zk_27 (h : yTxt m) (b : Int) (hb : 0 ≤ b ∧ b < 256) : zmD zP (D + 5) 27 [zi b] (zW L m) = some (some (zi (yMan b)), zW L m) := by
  obtain ⟨e1, e2⟩ := z_byt b.toNat (by omega)
  rw [show ((b.toNat : Nat) : Int) = b by omega] at e1 e2
  have i1 := yIx_in (f := tWh) (x := z_i2b b)
  have i2 := yIx_in (f := tBk) (x := z_i2b b)
  rw [zen_27, zb_27_0, e1, ytc (yTx_w h), zk_28 D (yTx_w h) b hb, zbs, zmG_v, zb_27_7, ← e2]
  by_cases g : yIx tWh (z_i2b b) < 0
  · rw [if_pos g, if_pos g, ytc (yTx_b h), e1, zk_28 D (yTx_b h) b hb, zbs, zmG_v, zb_27_26, w32_of (by omega) (by omega)]
  · rw [if_neg g, if_neg g, w32_of (by omega) (by omega)]
theorem yMan_enc : ∀ b : Int, yEnc (yMan b) = zman b ∧ -6 ≤ yMan b ∧ yMan b ≤ 6 := fun b => by
  have h : 0 ≤ zman b ∧ zman b ≤ 14 ∧ zman b ≠ 7 ∧ zman b ≠ 8 := by
    unfold zman
    repeat (split; · decide)
    decide
  unfold yMan yEnc
  split <;> split <;> omega
def yCl (b : Int) : Prop := 97 ≤ b ∧ b ≤ 104
def yRw (b : Int) : Prop := 49 ≤ b ∧ b ≤ 56
noncomputable def yNext (s b : Int) : Int := if s = 0 then (if 0 < yMan b then 1 else if yT (yCl b) = 0 then (if yT (yRw b) = 0 then 7 else 3) else 2) else if s = 1 then (if yT (yCl b) = 0 then (if yT (yRw b) = 0 then 7 else 3) else 2) else if s = 2 then (if yT (yCl b) = 0 then (if yT (yRw b) = 0 then 7 else 5) else 4) else if s = 3 then (if yT (yCl b) = 0 then 7 else 4) else if s = 4 then (if yT (yRw b) = 0 then 7 else 6) else if s = 5 then (if yT (yCl b) = 0 then 7 else 4) else 7
def yEnds (s : Int) : Prop := s = 2 ∨ s = 3 ∨ s = 5 ∨ s = 6
theorem zk_58 (b : Int) {w : zmW} : zmD zP (D + 1) 58 [zi b] w = some (some (zi (yT (yCl b))), w) := by
  rw [zen_58, zb_58_0]
  unfold yCl
  by_cases g : b < 97
  · rw [if_pos g, yT_neg (by omega)]
  · rw [if_neg g]
    by_cases g2 : 104 < b
    · rw [if_pos g2, yT_neg (by omega)]
    · rw [if_neg g2, yT_pos (by omega)]
theorem zk_59 (b : Int) {w : zmW} : zmD zP (D + 1) 59 [zi b] w = some (some (zi (yT (yRw b))), w) := by
  rw [zen_59, zb_59_0]
  unfold yRw
  by_cases g : b < 49
  · rw [if_pos g, yT_neg (by omega)]
  · rw [if_neg g]
    by_cases g2 : 56 < b
    · rw [if_pos g2, yT_neg (by omega)]
    · rw [if_neg g2, yT_pos (by omega)]
theorem zk_60 (s : Int) {w : zmW} : zmD zP (D + 1) 60 [zi s] w = some (some (zi (yT (yEnds s))), w) := by
  rw [zen_60, zb_60_0, zb_60_21]
  unfold yEnds
  by_cases g2 : s = 2
  · rw [if_pos g2, yT_pos (.inl g2)]
  by_cases g3 : s = 3
  · rw [if_neg g2, if_pos g3, yT_pos (.inr (.inl g3))]
  by_cases g5 : s = 5
  · rw [if_neg g2, if_neg g3, if_pos g5, yT_pos (.inr (.inr (.inl g5)))]
  by_cases g6 : s = 6
  · rw [if_neg g2, if_neg g3, if_neg g5, if_pos g6, yT_pos (.inr (.inr (.inr g6)))]
  rw [if_neg g2, if_neg g3, if_neg g5, if_neg g6, yT_neg (by omega)]
theorem zk_57 (h : yTxt m) (s b : Int) (hb : 0 ≤ b ∧ b < 256) : zmD zP (D + 6) 57 [zi s, zi b] (zW L m) = some (some (zi (yNext s b)), zW L m) := by
  unfold yNext
  rw [zen_57, zb_57_0, zk_58, zbs, zmG_v, zb_57_4, zk_59, zbs, zmG_v, zb_57_9]
  by_cases g0 : s = 0
  · rw [if_pos g0, if_pos g0, zk_27 D h b hb, zbs, zmG_v, zb_57_52]
    repeat' split
    all_goals rfl
  rw [if_neg g0, if_neg g0]
  repeat' split
  all_goals first | rfl | omega
end ZR
