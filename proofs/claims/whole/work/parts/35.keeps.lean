/-! isAttacked, areInLine, keepsKing of the class -/
def yMvC (b : Int → Int) (f t : Int) : Int → Int := fun s => if s = t then b f else if s = f then 0 else b s
section ZR
variable {L a e : Nat} {m : Nat → Int → Int} (D : Nat)
theorem zk_105 (h : yBd L a e) (hT : yTab m) (hB : zOkC (m e)) (ht : m a 1 = 0 ∨ m a 1 = 1) (hk : yKg (m e) (if m a 1 = 0 then 6 else -6) (if m a 1 = 0 then m a 2 else m a 3)) : zmD zP (D + 3) 105 [zr a] (zW L m) = some (some (zi (yT (yAtt (yB (m e)) (8 * m a 1)))), zW L m) := by
  have e0 : zmD zP (D + 3) 105 [zr a] (zW L m) = zmE (zmD zP (D + 2)) zc_105 (18, [some (zr a), none], [zi (if m a 1 = 0 then m a 2 else m a 3)], zW L m) := by
    rw [zen_105, zb_105_0, ybi h, zbs]
    by_cases g : m a 1 = 0
    · rw [if_pos g, if_pos g, ybi h, zbs]
    · rw [if_neg g, if_neg g, ybi h, zbs]
  rw [e0, zb_105_18, yT_c (yAtt_iff hB ht hk)]
  generalize (if m a 1 = 0 then m a 2 else m a 3) = k at *
  by_cases g : k = -1
  · rw [if_pos g, yT_neg (fun q => q.1 g)]
  · have hk2 : 0 ≤ k ∧ k < 64 := by
      rcases hk with ⟨q, -⟩ | ⟨q, q2, -⟩
      · exact absurd q g
      · exact ⟨q, q2⟩
    rw [if_neg g, ybc h, zk_77 _ h hT hB k hk2, zbs, zmG_v, zb_105_29]
    by_cases g2 : yStruck (m e) (m a 1) k
    · rw [yT_pos g2, if_neg (by decide), yT_pos ⟨g, g2⟩]
    · rw [yT_neg g2, if_pos rfl, yT_neg (fun q => g2 q.2)]
theorem zk_79 (s q : Int) (hs : 0 ≤ s ∧ s < 64) (hq : 0 ≤ q ∧ q < 64) : zmD zP (D + 1) 79 [zi s, zi q] (zW L m) = some (some (zi (yT (s % 8 = q % 8 ∨ s / 8 = q / 8 ∨ s % 8 - q % 8 = s / 8 - q / 8 ∨ s % 8 - q % 8 = -(s / 8 - q / 8)))), zW L m) := by
  rw [zen_79, zb_79_0, (z_and7 hs).1, (z_and7 hq).1, w32_of (by omega) (by omega), zb_79_10, (z_and7 hs).2, (z_and7 hq).2, w32_of (by omega) (by omega), zb_79_18, w32_of (z := -(s / 8 - q / 8)) (by omega) (by omega), zb_79_37]
  by_cases g1 : s % 8 - q % 8 = 0
  · rw [if_pos g1, yT_pos (.inl (by omega))]
  rw [if_neg g1]
  by_cases g2 : s / 8 - q / 8 = 0
  · rw [if_pos g2, yT_pos (.inr (.inl (by omega)))]
  rw [if_neg g2]
  by_cases g3 : s % 8 - q % 8 = s / 8 - q / 8
  · rw [if_pos g3, yT_pos (.inr (.inr (.inl g3)))]
  rw [if_neg g3]
  by_cases g4 : s % 8 - q % 8 = -(s / 8 - q / 8)
  · rw [if_pos g4, yT_pos (.inr (.inr (.inr g4)))]
  rw [if_neg g4, yT_neg (by omega)]
theorem zk_87 (h : yBd L a e) (hT : yTab m) (hB : zOkC (m e)) (f t k : Int) (hf : 0 ≤ f ∧ f < 64) (ht : 0 ≤ t ∧ t < 64) (hk : 0 ≤ k ∧ k < 64) (hne : f ≠ t) : zmD zP (D + 3) 87 [zr a, zi f, zi t, zi k] (zW L m) = some (some (zi (yT (¬ yStruck (yMvC (m e) f t) (m a 1) (if f = k then t else k)))), zW L m) := by
  have hae : a ≠ e := h.2.2.2.2.2
  have he : e < zXB := Nat.lt_trans h.2.2.2.2.1 (by decide)
  have e0 : zmD zP (D + 3) 87 [zr a, zi f, zi t, zi k] (zW L m) = zmE (zmD zP (D + 2)) zc_87 (42, [some (zr a), some (zi f), some (zi t), some (zi k), some (zi (m e f)), some (zi (m e t)), none], [zi (if f = k then t else k), zr a], zW L (zup (zup m e f 0) e t (m e f))) := by
    rw [zen_87, zb_87_0, ybr h, zbs, yba h hf.1 hf.2, zbs, zbs, yba h ht.1 ht.2, zbs, zbs, ybs h hf.1 hf.2, zbs, ybr h, zbs, ybs h ht.1 ht.2, zbs]
    split <;> rfl
  have hb : zup (zup m e f 0) e t (m e f) e = yMvC (m e) f t := by
    funext s
    unfold zup yMvC
    by_cases g : s = t
    · rw [if_pos ⟨rfl, g⟩, if_pos g]
    · rw [if_neg (fun q => g q.2), if_neg g]
      by_cases g2 : s = f
      · rw [if_pos ⟨rfl, g2⟩, if_pos g2]
      · rw [if_neg (fun q => g2 q.2), if_neg g2]
  have hT2 : yTab (zup (zup m e f 0) e t (m e f)) := by
    have q : ∀ j i, zup (zup m e f 0) e t (m e f) (zXB + j) i = m (zXB + j) i := fun j i => by
      rw [zup_ne (by omega), zup_ne (by omega)]
    refine ⟨fun i => ?_, fun i => ?_, fun i => ?_, fun i => ?_, fun i => ?_⟩ <;> rw [q]
    · exact hT.1 i
    · exact hT.2.1 i
    · exact hT.2.2.1 i
    · exact hT.2.2.2.1 i
    · exact hT.2.2.2.2 i
  have hB2 : zOkC (yMvC (m e) f t) := fun s h1 h2 => by
    have q1 := hB s h1 h2
    have q2 := hB f hf.1 hf.2
    unfold yMvC
    split
    · exact q2
    · split
      · omega
      · exact q1
  have hsq : 0 ≤ (if f = k then t else k) ∧ (if f = k then t else k) < 64 := by split <;> omega
  generalize (if f = k then t else k) = sq at *
  have z := zk_77 (L := L) (m := zup (zup m e f 0) e t (m e f)) D h hT2 (by rw [hb]; exact hB2) sq hsq
  rw [hb, zup_ne hae, zup_ne hae] at z
  have back : zup (zup (zup (zup m e f 0) e t (m e f)) e f (m e f)) e t (m e t) = m := by
    funext x j
    unfold zup
    by_cases hx : x = e
    · subst hx
      by_cases h1 : j = t
      · rw [if_pos ⟨rfl, h1⟩, h1]
      · rw [if_neg (fun q => h1 q.2)]
        by_cases h2 : j = f
        · rw [if_pos ⟨rfl, h2⟩, h2]
        · rw [if_neg (fun q => h2 q.2), if_neg (fun q => h1 q.2), if_neg (fun q => h2 q.2)]
    · rw [if_neg (fun q => hx q.1), if_neg (fun q => hx q.1), if_neg (fun q => hx q.1), if_neg (fun q => hx q.1)]
  have last : ∀ x, (x = 0 ∨ x = 1) → zmE (zmD zP (D + 2)) zc_87 (53, [some (zr a), some (zi f), some (zi t), some (zi k), some (zi (m e f)), some (zi (m e t)), none], [zi x], zW L (zup (zup m e f 0) e t (m e f))) = some (some (zi x), zW L m) := fun x hx => by
    rw [zb_87_53, ybr h, zbs, ybs h hf.1 hf.2, zbs, ybr h, zbs, ybs h ht.1 ht.2, zbs, if_pos hx, back]
  rw [e0, zb_87_42, ybc h, z, zbs, zmG_v, zb_87_45]
  by_cases g : yStruck (yMvC (m e) f t) (m a 1) sq
  · rw [yT_pos g, if_neg (by decide), last 0 (.inl rfl), yT_neg (fun q => q g)]
  · rw [yT_neg g, if_pos rfl, last 1 (.inr rfl), yT_pos g]
end ZR
