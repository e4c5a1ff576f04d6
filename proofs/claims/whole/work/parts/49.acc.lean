/-! rows of moves: what is read of them -/
def yPop (x : Int) : Int := x % 2 + x / 2 % 2 + x / 4 % 2 + x / 8 % 2 + x / 16 % 2
def yP1 (x : Int) : Int := w32 (x - (z_and (z_ushr x 1) 1431655765))
def yP2 (x : Int) : Int := w32 ((z_and x 858993459) + (z_and (z_ushr x 2) 858993459))
def yP3 (x : Int) : Int := z_and (w32 (x + (z_ushr x 4))) 252645135
def yP4 (x : Int) : Int := z_and (w32 ((w32 (x + (z_ushr x 8))) + (z_ushr (w32 (x + (z_ushr x 8))) 16))) 63
theorem yPop_ok : ∀ n : Nat, n < 32 → yP4 (yP3 (yP2 (yP1 n))) = yPop n := by decide +kernel
def yForm (f : Int) : Int := if 0 ≤ f ∧ f < 11 then tFm f else 0
theorem tFm_in : ∀ n : Nat, n < 11 → 0 ≤ tFm n ∧ tFm n < 32 := by decide +kernel
theorem yForm_in (f : Int) : 0 ≤ yForm f ∧ yForm f < 32 := by
  unfold yForm
  split
  · have := tFm_in f.toNat (by omega)
    rw [show ((f.toNat : Nat) : Int) = f by omega] at this
    exact this
  · decide
/-- the sign of a part that a saying tells -/
def ySg (part kind v : Int) : Int := if part = 2 then 97 + v % 8 else if part = 4 then 49 + v / 512 else if part = 8 then 97 + v / 64 % 8 else if part = 16 then zlet (kind + 1) else 49 + v / 8 % 8
/-- a saying as its signs -/
def ySay (p kind v : Int) : List Int := (if z_and p 16 = 0 then [] else [ySg 16 kind v]) ++ ((if z_and p 8 = 0 then [] else [ySg 8 kind v]) ++ ((if z_and p 4 = 0 then [] else [ySg 4 kind v]) ++ ((if z_and p 2 = 0 then [] else [ySg 2 kind v]) ++ (if z_and p 1 = 0 then [] else [ySg 1 kind v]))))
def yGet (xs : List Int) (i : Int) : Int := if 0 ≤ i ∧ i < xs.length then xs.getD i.toNat 0 else -1
theorem yGet_cons {x : Int} {xs : List Int} {i : Int} (h : i ≠ 0) (hi : 0 ≤ i) : yGet (x :: xs) i = yGet xs (i - 1) := by
  unfold yGet
  rw [List.length_cons]
  by_cases g : i - 1 < xs.length
  · rw [if_pos (by omega), if_pos (by omega), show i.toNat = (i - 1).toNat + 1 by omega]
    rfl
  · rw [if_neg (by omega), if_neg (by omega)]
theorem yGet_zero {x : Int} {xs : List Int} : yGet (x :: xs) 0 = x := by
  unfold yGet
  rw [List.length_cons, if_pos (by omega)]
  rfl
theorem yGet_neg {xs : List Int} {i : Int} (h : i < 0) : yGet xs i = -1 := if_neg (by omega)
section ZR
variable {L : Nat} {m : Nat → Int → Int} (D : Nat)
theorem zk_93 (x : Int) (hx : 0 ≤ x ∧ x < 32) {w : zmW} : zmD zP (D + 1) 93 [zi x] w = some (some (zi (yPop x)), w) := by
  have e := yPop_ok x.toNat (by omega)
  rw [show ((x.toNat : Nat) : Int) = x by omega] at e
  rw [zen_93, zb_93_0, zb_93_10, zb_93_24, zb_93_34, zb_93_48, ← e]
  rfl
theorem zk_92 (hT : yTab m) (f : Int) : zmD zP (D + 1) 92 [zi f] (zW L m) = some (some (zi (yForm f)), zW L m) := by
  unfold yForm
  rw [zen_92, zb_92_0]
  by_cases g : f < 0
  · rw [if_pos g, if_neg (by omega)]
  · rw [if_neg g, zw_len (by rw [zhx_4]; decide) (by rw [zhx_4]; decide), zbs, zhx_4]
    show (if f < 11 then _ else _) = _
    by_cases g2 : f < 11
    · rw [if_pos g2, yt4 hT (by omega) g2, zbs, if_pos ⟨by omega, g2⟩]
    · rw [if_neg g2, if_neg (by omega)]
theorem zk_91 (hT : yTab m) (f : Int) : zmD zP (D + 2) 91 [zi f] (zW L m) = some (some (zi (yPop (yForm f))), zW L m) := by
  rw [zen_91, zb_91_0, zk_92 D hT, zbs, zmG_v, zb_91_4, zk_93 D _ (yForm_in f), zbs, zmG_v, zb_91_7]
section ZL
variable {q R : Nat}
theorem zk_90 (h : yLs L q R) : zmD zP (D + 1) 90 [zr q] (zW L m) = some (some (zi (m q 3)), zW L m) := by
  rw [zen_90, zb_90_0, yli h, zbs]
theorem zk_97 (h : yLs L q R) (hl : m q 3 ≤ R) (i : Int) : zmD zP (D + 1) 97 [zr q, zi i] (zW L m) = some (some (zi (if 0 ≤ i ∧ i < m q 3 then m (q + 1) i else -1)), zW L m) := by
  rw [zen_97, zb_97_0, yli h, zbs, yl0 h, zbs]
  by_cases g : i < 0
  · rw [if_pos g, if_neg (by omega)]
  · by_cases g2 : i < m q 3
    · rw [if_neg g, if_pos g2, yla1 h (by omega) (by omega), zbs, if_pos ⟨by omega, g2⟩]
    · rw [if_neg g, if_neg g2, if_neg (by omega)]
theorem zk_96 (h : yLs L q R) (hl : m q 3 ≤ R) (i : Int) : zmD zP (D + 1) 96 [zr q, zi i] (zW L m) = some (some (zi (if 0 ≤ i ∧ i < m q 3 then m (q + 2) i else 0)), zW L m) := by
  rw [zen_96, zb_96_0, yli h, zbs, yl1 h, zbs]
  by_cases g : i < 0
  · rw [if_pos g, if_neg (by omega)]
  · by_cases g2 : i < m q 3
    · rw [if_neg g, if_pos g2, yla2 h (by omega) (by omega), zbs, if_pos ⟨by omega, g2⟩]
    · rw [if_neg g, if_neg g2, if_neg (by omega)]
theorem zk_98 (h : yLs L q R) (hl : m q 3 ≤ R) (i : Int) : zmD zP (D + 1) 98 [zr q, zi i] (zW L m) = some (some (zi (if 0 ≤ i ∧ i < m q 3 then m (q + 3) i else 10)), zW L m) := by
  rw [zen_98, zb_98_0, yli h, zbs, yl2 h, zbs]
  by_cases g : i < 0
  · rw [if_pos g, if_neg (by omega)]
  · by_cases g2 : i < m q 3
    · rw [if_neg g, if_pos g2, yla3 h (by omega) (by omega), zbs, if_pos ⟨by omega, g2⟩]
    · rw [if_neg g, if_neg g2, if_neg (by omega)]
theorem zk_99 (h : yLs L q R) (hl : m q 3 ≤ R) (i f : Int) (hi : 0 ≤ i ∧ i < m q 3) : zmD zP (D + 1) 99 [zr q, zi i, zi f] (zW L m) = some (none, zW L (zup m (q + 3) i f)) := by
  rw [zen_99, zb_99_0, if_neg (by omega), yli h, zbs, if_pos hi.2, yl2 h, zbs, yls3 h hi.1 (by omega), zbs]
theorem zk_117 (h : yLs L q R) (hl : m q 3 ≤ R) (hT : yTab m) (i : Int) : zmD zP (D + 2) 117 [zr q, zi i] (zW L m) = some (some (zi (yPop (yForm (if 0 ≤ i ∧ i < m q 3 then m (q + 3) i else 10)))), zW L m) := by
  rw [zen_117, zb_117_0, ylc h, zk_98 D h hl, zbs, zmG_v, zb_117_5, zk_92 D hT, zbs, zmG_v, zb_117_8, zk_93 D _ (yForm_in _), zbs, zmG_v, zb_117_11]
theorem zk_120 (hX : yTxt m) (part kind v : Int) (hk : 0 ≤ kind ∧ kind ≤ 5) (hv : 0 ≤ v ∧ v < 4096) : zmD zP (D + 5) 120 [zi part, zi kind, zi v] (zW L m) = some (some (zi (ySg part kind v)), zW L m) := by
  obtain ⟨k1, k2, k3, k4⟩ := z_key hv
  have hl := zlet_in (kind + 1)
  unfold ySg
  rw [zen_120, zb_120_0, k1, k2, k3, k4, w32_of (z := 97 + v % 8) (by omega) (by omega), w32_of (z := 49 + v / 512) (by omega) (by omega), w32_of (z := 97 + v / 64 % 8) (by omega) (by omega), w32_of (z := 49 + v / 8 % 8) (by omega) (by omega), w32_of (z := kind + 1) (by omega) (by omega), zk_64 D hX _ (by omega), zbs, zmG_v, zb_120_50]
  unfold yLet
  rw [if_pos (show 0 < kind + 1 ∧ kind + 1 ≤ 6 by omega)]
  repeat' split
  all_goals rfl
theorem zk_119 (hX : yTxt m) (p kind v i : Int) (hk : 0 ≤ kind ∧ kind ≤ 5) (hv : 0 ≤ v ∧ v < 4096) : zmD zP (D + 6) 119 [zi p, zi kind, zi v, zi i] (zW L m) = some (some (zi (yGet (ySay p kind v) i)), zW L m) := by
  have step : ∀ (part : Int) (xs : List Int) (c : Int), 0 < part → 0 ≤ c → c < 10 → zmE (zmD zP (D+5)) zc_119 (7, [some (zi p), some (zi kind), some (zi v), some (zi i), some (zi (c + 1)), some (zi (z_shr part 1))], [], zW L m) = some (some (zi (if i < c + 1 then -1 else yGet xs (i - (c + 1)))), zW L m) → zmE (zmD zP (D+5)) zc_119 (7, [some (zi p), some (zi kind), some (zi v), some (zi i), some (zi c), some (zi (z_shr part 1))], [], zW L m) = some (some (zi (if i < c then -1 else yGet xs (i - c))), zW L m) → zmE (zmD zP (D+5)) zc_119 (7, [some (zi p), some (zi kind), some (zi v), some (zi i), some (zi c), some (zi part)], [], zW L m) = some (some (zi (if i < c then -1 else yGet ((if z_and p part = 0 then [] else [ySg part kind v]) ++ xs) (i - c))), zW L m) := fun part xs c h1 h2 h3 e1 e2 => by
    rw [zb_119_7, if_pos h1]
    by_cases g : z_and p part = 0
    · rw [if_pos g, if_pos g, zb_119_39, e2, List.nil_append]
    · rw [if_neg g, if_neg g]
      by_cases g2 : c = i
      · subst g2
        rw [if_pos rfl, zk_120 D hX _ _ _ hk hv, zbs, zmG_v, zb_119_35, if_neg (by omega), Int.sub_self, List.singleton_append, yGet_zero]
      · rw [if_neg g2, w32_of (by omega) (by omega), zb_119_39, e1]
        by_cases g3 : i < c
        · rw [if_pos (by omega), if_pos g3]
        · rw [if_neg (by omega), if_neg g3, List.singleton_append, yGet_cons (by omega) (by omega), Int.sub_sub]
  have st0 : ∀ c : Int, 0 ≤ c → c < 10 → zmE (zmD zP (D+5)) zc_119 (7, [some (zi p), some (zi kind), some (zi v), some (zi i), some (zi c), some (zi 0)], [], zW L m) = some (some (zi (if i < c then -1 else yGet [] (i - c))), zW L m) := fun c _ _ => by
    rw [zb_119_7, if_neg (by decide)]
    have : yGet [] (i - c) = -1 := by
      unfold yGet
      rw [if_neg]
      show ¬ (0 ≤ i - c ∧ i - c < ((0 : Nat) : Int))
      omega
    rw [this, ite_self]
  have st1 : ∀ c : Int, 0 ≤ c → c < 9 → zmE (zmD zP (D+5)) zc_119 (7, [some (zi p), some (zi kind), some (zi v), some (zi i), some (zi c), some (zi 1)], [], zW L m) = _ := fun c h1 h2 => step 1 [] c (by decide) h1 (by omega) (st0 (c + 1) (by omega) (by omega)) (st0 c h1 (by omega))
  have st2 : ∀ c : Int, 0 ≤ c → c < 8 → zmE (zmD zP (D+5)) zc_119 (7, [some (zi p), some (zi kind), some (zi v), some (zi i), some (zi c), some (zi 2)], [], zW L m) = _ := fun c h1 h2 => step 2 _ c (by decide) h1 (by omega) (st1 (c + 1) (by omega) (by omega)) (st1 c h1 (by omega))
  have st4 : ∀ c : Int, 0 ≤ c → c < 7 → zmE (zmD zP (D+5)) zc_119 (7, [some (zi p), some (zi kind), some (zi v), some (zi i), some (zi c), some (zi 4)], [], zW L m) = _ := fun c h1 h2 => step 4 _ c (by decide) h1 (by omega) (st2 (c + 1) (by omega) (by omega)) (st2 c h1 (by omega))
  have st8 : ∀ c : Int, 0 ≤ c → c < 6 → zmE (zmD zP (D+5)) zc_119 (7, [some (zi p), some (zi kind), some (zi v), some (zi i), some (zi c), some (zi 8)], [], zW L m) = _ := fun c h1 h2 => step 8 _ c (by decide) h1 (by omega) (st4 (c + 1) (by omega) (by omega)) (st4 c h1 (by omega))
  have st16 : ∀ c : Int, 0 ≤ c → c < 5 → zmE (zmD zP (D+5)) zc_119 (7, [some (zi p), some (zi kind), some (zi v), some (zi i), some (zi c), some (zi 16)], [], zW L m) = _ := fun c h1 h2 => step 16 _ c (by decide) h1 (by omega) (st8 (c + 1) (by omega) (by omega)) (st8 c h1 (by omega))
  rw [zen_119, zb_119_0, st16 0 (by decide) (by decide), List.append_nil, Int.sub_zero]
  unfold ySay
  by_cases g : i < 0
  · rw [if_pos g, yGet_neg g]
  · rw [if_neg g]
theorem zk_103 (h : yLs L q R) (hl : m q 3 ≤ R) (hl0 : 0 ≤ m q 3) (v : Int) : ∃ i : Int, zmD zP (D + 1) 103 [zr q, zi v] (zW L m) = some (some (zi i), zW L m) ∧ (i = -1 ∧ (∀ j, 0 ≤ j → j < m q 3 → m (q + 1) j ≠ v) ∨ 0 ≤ i ∧ i < m q 3 ∧ m (q + 1) i = v) := by
  have hR := h.2.2.2
  suffices e : ∀ k i : Nat, (i : Int) + k = m q 3 → (∀ j : Int, 0 ≤ j → j < i → m (q + 1) j ≠ v) → ∃ i' : Int, zmE (zmD zP D) zc_103 (2, [some (zr q), some (zi v), some (zi i)], [], zW L m) = some (some (zi i'), zW L m) ∧ (i' = -1 ∧ (∀ j, 0 ≤ j → j < m q 3 → m (q + 1) j ≠ v) ∨ 0 ≤ i' ∧ i' < m q 3 ∧ m (q + 1) i' = v) by
    rw [zen_103, zb_103_0]
    exact e (m q 3).toNat 0 (by omega) (fun j _ _ => by omega)
  intro k
  induction k with
  | zero =>
    intro i hi hn
    rw [zb_103_2, yli h, zbs, if_neg (by omega)]
    exact ⟨-1, rfl, .inl ⟨rfl, fun j h1 h2 => hn j h1 (by omega)⟩⟩
  | succ k ih =>
    intro i hi hn
    rw [zb_103_2, yli h, zbs, if_pos (by omega), yl0 h, zbs, yla1 h (by omega) (by omega), zbs]
    by_cases g : m (q + 1) i = v
    · rw [if_pos g]
      exact ⟨i, rfl, .inr ⟨by omega, by omega, g⟩⟩
    · rw [if_neg g, w32_of (by omega) (by omega)]
      have := ih (i + 1) (by omega) (fun j h1 h2 => by
        by_cases hj : j = i
        · rw [hj]
          exact g
        · exact hn j h1 (by omega))
      rw [Int.natCast_succ] at this
      exact this
end ZL
end ZR
