/-! mayGo, isAttacked, puts, isLawful of the reference -/
def yMay (b : Int → Int) (c f t : Int) : Prop := zcol (b f) = c ∧ zcol (b t) ≠ c ∧ if b f % 8 = 1 ∧ zcol (b t) = -1 then yGoes b f t else yReach b f t
/-- the last place of a man below n -/
def yLast (b : Int → Int) (k : Int) : Nat → Int
  | 0 => -1
  | n + 1 => if b n = k then n else yLast b k n
theorem yLast_in {b : Int → Int} {k : Int} : ∀ n : Nat, yLast b k n = -1 ∨ 0 ≤ yLast b k n ∧ yLast b k n < n ∧ b (yLast b k n) = k
  | 0 => .inl rfl
  | n + 1 => by
    unfold yLast
    split
    · rename_i h
      exact .inr ⟨by omega, by omega, h⟩
    · rcases yLast_in (b := b) (k := k) n with h | ⟨h, h2, h3⟩
      · exact .inl h
      · exact .inr ⟨h, by omega, h3⟩
def yAtt (b : Int → Int) (c : Int) : Prop := yLast b (c + 6) 64 ≠ -1 ∧ ∃ s, 0 ≤ s ∧ s < 64 ∧ zcol (b s) = 8 - c ∧ yReach b s (yLast b (c + 6) 64)
def yCrown (k t : Int) : Int := if k = 1 ∧ t / 8 = 7 ∨ k = 9 ∧ t / 8 = 0 then k + 4 else k
def yPut (b : Int → Int) (f t : Int) : Int → Int := fun s => if s = f then 0 else if s = t then yCrown (b f) t else b s
def yLaw (b : Int → Int) (c f t : Int) : Prop := yMay b c f t ∧ ¬ yAtt (yPut b f t) c
theorem zOkB_put {b : Int → Int} (h : zOkB b) {f t : Int} (hf : 0 ≤ f ∧ f < 64) : zOkB (yPut b f t) := by
  intro s h1 h2
  have a := h s h1 h2
  have a2 := h f hf.1 hf.2
  unfold yPut yCrown
  split
  · omega
  · split
    · split <;> omega
    · omega
section ZR
variable {L : Nat} {m : Nat → Int → Int} (d : Nat)
theorem zk_235 (l f t : Int) (hl : 0 ≤ l ∧ l < 4) (hf : 0 ≤ f ∧ f < 64) (ht : 0 ≤ t ∧ t < 64) (hB : zOkB (zbd m l)) : zmD zP (d + 4) 235 [zr 98, zi l, zi f, zi t] (zW L m) = some (some (zi (yT (yMay (zbd m l) (m 106 l) f t))), zW L m) := by
  have e1 : ∀ s, m 105 (64 * l + s) = zbd m l s := fun _ => rfl
  have hb := hB f hf.1 hf.2
  rw [zen_235, zb_235_0, zgr_98_8, zbs, w32_of (z := 64 * l) (by omega) (by omega), w32_of (z := 64 * l + f) (by omega) (by omega), zai_105 (by omega) (by omega), zbs, zbs, w32_of (z := 64 * l + t) (by omega) (by omega), zai_105 (by omega) (by omega), zbs, e1, e1, zk_233, zbs, zmG_v, zb_235_27, zk_233, zbs, zmG_v, zb_235_34, zgr_98_9, zbs, zai_106 hl.1 hl.2, zbs]
  by_cases g : zcol (zbd m l f) = m 106 l
  · rw [if_pos g, zbs, zai_106 hl.1 hl.2, zbs]
    by_cases g2 : zcol (zbd m l t) = m 106 l
    · rw [if_pos g2, yT_neg (fun q => q.2.1 g2)]
    · rw [if_neg g2, z_rem_of hb.1 (by omega) (by decide) (by decide)]
      by_cases g3 : zbd m l f % 8 = 1
      · rw [if_pos g3]
        by_cases g4 : zcol (zbd m l t) = -1
        · rw [if_pos g4, zcv_98, zk_236 _ _ _ _ hl hf ht, zbs, zmG_v, zb_235_78, zb_235_88, if_pos yT_or]
          refine congrArg (fun x => some (some (zi x), zW L m)) (yT_c ⟨fun q => ⟨g, g2, by rw [if_pos ⟨g3, g4⟩]; exact q⟩, fun q => ?_⟩)
          have := q.2.2
          rw [if_pos ⟨g3, g4⟩] at this
          exact this
        · rw [if_neg g4, zcv_98, zk_237 _ _ _ _ hl hf ht hB, zbs, zmG_v, zb_235_88, if_pos yT_or]
          refine congrArg (fun x => some (some (zi x), zW L m)) (yT_c ⟨fun q => ⟨g, g2, by rw [if_neg (fun x => g4 x.2)]; exact q⟩, fun q => ?_⟩)
          have := q.2.2
          rw [if_neg (fun x => g4 x.2)] at this
          exact this
      · rw [if_neg g3, zcv_98, zk_237 _ _ _ _ hl hf ht hB, zbs, zmG_v, zb_235_96, if_pos yT_or]
        refine congrArg (fun x => some (some (zi x), zW L m)) (yT_c ⟨fun q => ⟨g, g2, by rw [if_neg (fun x => g3 x.1)]; exact q⟩, fun q => ?_⟩)
        have := q.2.2
        rw [if_neg (fun x => g3 x.1)] at this
        exact this
  · rw [if_neg g, yT_neg (fun q => g q.1)]
theorem zk_242 (l c : Int) (hl : 0 ≤ l ∧ l < 4) (hc : c = 0 ∨ c = 8) (hB : zOkB (zbd m l)) : zmD zP (d + 4) 242 [zr 98, zi l, zi c] (zW L m) = some (some (zi (yT (yAtt (zbd m l) c))), zW L m) := by
  have e1 : ∀ s, m 105 (64 * l + s) = zbd m l s := fun _ => rfl
  rw [zen_242, zb_242_0]
  have first : ∀ j i : Nat, i + j = 64 → zmE (zmD zP (d + 3)) zc_242 (5, [some (zr 98), some (zi l), some (zi c), some (zi (yLast (zbd m l) (c + 6) i)), some (zi i)], [], zW L m) = if yLast (zbd m l) (c + 6) 64 = -1 then some (some (zi 0), zW L m) else zmE (zmD zP (d + 3)) zc_242 (54, [some (zr 98), some (zi l), some (zi c), some (zi (yLast (zbd m l) (c + 6) 64)), some (zi 0)], [], zW L m) := by
    intro j
    induction j with
    | zero =>
      intro i hi
      rw [zb_242_5, if_neg (by omega), show i = 64 by omega]
    | succ j ih =>
      intro i hi
      have e := ih (i + 1) (by omega)
      unfold yLast at e
      rw [Int.natCast_succ] at e
      rw [zb_242_5, if_pos (by omega), zgr_98_8, zbs, w32_of (z := 64 * l) (by omega) (by omega), w32_of (z := 64 * l + _) (by omega) (by omega), zai_105 (by omega) (by omega), zbs, w32_of (z := c + 6) (by omega) (by omega), e1]
      by_cases g : zbd m l i = c + 6
      · rw [if_pos g] at e ⊢
        rw [zb_242_37, w32_of (by omega) (by omega), e]
        rfl
      · rw [if_neg g] at e ⊢
        rw [zb_242_37, w32_of (by omega) (by omega), e]
        rfl
  have e0 := first 64 0 rfl
  rw [show ((0 : Nat) : Int) = 0 from rfl] at e0
  refine e0.trans ?_
  by_cases g : yLast (zbd m l) (c + 6) 64 = -1
  · rw [if_pos g, yT_neg (fun q => q.1 g)]
  rw [if_neg g]
  have hk : 0 ≤ yLast (zbd m l) (c + 6) 64 ∧ yLast (zbd m l) (c + 6) 64 < 64 := by
    rcases yLast_in (b := zbd m l) (k := c + 6) 64 with h | ⟨h, h2, -⟩
    · exact absurd h g
    · exact ⟨h, h2⟩
  unfold yAtt
  generalize yLast (zbd m l) (c + 6) 64 = king at *
  suffices h : ∀ j i : Nat, i + j = 64 → zmE (zmD zP (d + 3)) zc_242 (54, [some (zr 98), some (zi l), some (zi c), some (zi king), some (zi i)], [], zW L m) = some (some (zi (yT (∃ s, (i : Int) ≤ s ∧ s < 64 ∧ zcol (zbd m l s) = 8 - c ∧ yReach (zbd m l) s king))), zW L m) by
    refine (h 64 0 rfl).trans (congrArg (fun x => some (some (zi x), zW L m)) (yT_c ⟨fun q => ⟨g, q⟩, fun q => q.2⟩))
  intro j
  induction j with
  | zero =>
    intro i hi
    rw [zb_242_54, if_neg (by omega), yT_neg]
    rintro ⟨s, h1, h2, -⟩
    omega
  | succ j ih =>
    intro i hi
    have e := ih (i + 1) (by omega)
    rw [Int.natCast_succ] at e
    have nxt : zmE (zmD zP (d + 3)) zc_242 (96, [some (zr 98), some (zi l), some (zi c), some (zi king), some (zi i)], [], zW L m) = some (some (zi (yT (∃ s, (i : Int) + 1 ≤ s ∧ s < 64 ∧ zcol (zbd m l s) = 8 - c ∧ yReach (zbd m l) s king))), zW L m) := by
      rw [zb_242_96, w32_of (by omega) (by omega), e]
    rw [zb_242_54, if_pos (by omega), zgr_98_8, zbs, w32_of (z := 64 * l) (by omega) (by omega), w32_of (z := 64 * l + _) (by omega) (by omega), zai_105 (by omega) (by omega), zbs, e1, zk_233, zbs, zmG_v, zb_242_76, w32_of (z := 8 - c) (by omega) (by omega)]
    by_cases g1 : zcol (zbd m l i) = 8 - c
    · rw [if_pos g1, zcv_98, zk_237 _ _ _ _ hl ⟨by omega, by omega⟩ hk hB, zbs, zmG_v, zb_242_91]
      by_cases g2 : yReach (zbd m l) i king
      · rw [yT_pos g2, if_neg (by decide), yT_pos ⟨i, Int.le_refl _, by omega, g1, g2⟩]
      · rw [yT_neg g2, if_pos rfl, nxt]
        refine congrArg (fun x => some (some (zi x), zW L m)) (yT_c ⟨fun ⟨s, h1, h2⟩ => ⟨s, by omega, h2⟩, fun ⟨s, h1, h2, h3, h4⟩ => ?_⟩)
        by_cases hs : s = i
        · rw [hs] at h4
          exact absurd h4 g2
        · exact ⟨s, by omega, h2, h3, h4⟩
    · rw [if_neg g1, nxt]
      refine congrArg (fun x => some (some (zi x), zW L m)) (yT_c ⟨fun ⟨s, h1, h2⟩ => ⟨s, by omega, h2⟩, fun ⟨s, h1, h2, h3, h4⟩ => ?_⟩)
      by_cases hs : s = i
      · rw [hs] at h3
        exact absurd h3 g1
      · exact ⟨s, by omega, h2, h3, h4⟩
end ZR
