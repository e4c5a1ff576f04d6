/-! readsRow, takes, readsBoard, goesHome of the reference -/
def yPr (x : Nat) (j : Int) : Prop := x = 98 ∧ j = 7 ∨ x = 105 ∧ 0 ≤ j ∧ j < 64
def yPb (x : Nat) (j : Int) : Prop := x = 98 ∧ (j = 7 ∨ j = 10) ∨ x = 105 ∧ 0 ≤ j ∧ j < 64 ∨ x = 106 ∧ j = 0
theorem yPr_b : ∀ x j, yPr x j → yPb x j := fun x j h => by
  rcases h with ⟨h1, h2⟩ | h
  · exact .inl ⟨h1, .inl h2⟩
  · exact .inr (.inl h)
theorem yPb_no {j : Int} : ¬ yPb 103 j ∧ ¬ yPb 104 j := by
  unfold yPb
  refine ⟨?_, ?_⟩ <;> rintro (⟨q, -⟩ | ⟨q, -⟩ | ⟨q, -⟩) <;> exact absurd q (by decide)
theorem zkings_pos {m : Nat → Int → Int} {k : Int} : ∀ n : Nat, 0 < zkings m k n ↔ ∃ s : Int, 0 ≤ s ∧ s < n ∧ m 105 s = k
  | 0 => ⟨fun h => absurd h (by show ¬ (0 : Int) < 0; decide), fun ⟨s, h1, h2, _⟩ => by rw [Int.natCast_zero] at h2; omega⟩
  | n + 1 => by
    have ih := zkings_pos (m := m) (k := k) n
    have e : zkings m k (n + 1) = zkings m k n + zB (m 105 n = k) := rfl
    have nn : 0 ≤ zkings m k n := zsum_nn (fun _ => zB_nn) n
    rw [e, Int.natCast_succ]
    by_cases g : m 105 n = k
    · rw [zB, if_pos g]
      exact ⟨fun _ => ⟨n, by omega, by omega, g⟩, fun _ => by omega⟩
    · rw [zB, if_neg g, Int.add_zero, ih]
      constructor
      · rintro ⟨s, h1, h2, h3⟩
        exact ⟨s, h1, by omega, h3⟩
      · rintro ⟨s, h1, h2, h3⟩
        refine ⟨s, h1, ?_, h3⟩
        apply Classical.byContradiction
        intro h4
        have : s = n := by omega
        rw [this] at h3
        exact g h3
theorem zkings_hk {m : Nat → Int → Int} {B : Int → Int} (h : yAg (zbd m 0) B) {k : Int} : (0 < zkings m k 64 ↔ yHk B k) ∧ 0 ≤ zkings m k 64 := by
  have e : ∀ s, zbd m 0 s = m 105 s := fun s => by
    unfold zbd
    rw [show (64 : Int) * 0 + s = s by omega]
  refine ⟨?_, zsum_nn (fun _ => zB_nn) 64⟩
  rw [zkings_pos 64, ← yHk_cg h]
  unfold yHk
  constructor
  · rintro ⟨s, h1, h2, h3⟩
    exact ⟨s, h1, h2, by rw [e]; exact h3⟩
  · rintro ⟨s, h1, h2, h3⟩
    exact ⟨s, h1, h2, by rw [← e]; exact h3⟩
theorem zman_b (b : Int) : (0 ≤ zman b ∧ zman b ≤ 14) ∧ (49 ≤ b ∧ b ≤ 56 → zman b = 0) ∧ (b = 47 ∨ b = 32 → zman b = 0) ∧ zman (-1) = 0 := by
  refine ⟨?_, ?_, ?_, by decide⟩
  · unfold zman
    repeat (split; · decide)
    decide
  · intro h
    unfold zman
    simp (disch := omega) only [if_neg]
  · rintro (h | h) <;> subst h <;> decide
section ZR
variable {L : Nat} {m : Nat → Int → Int} (d : Nat) {w : List Int}
theorem zbd_set {p v : Int} {B : Int → Int} (hp : 0 ≤ p ∧ p < 64) (h : yAg (zbd m 0) B) : yAg (zbd (zup m 105 p v) 0) (ySet B p v) := fun s s1 s2 => by
  unfold zbd ySet
  rw [show (64 : Int) * 0 + s = s by omega]
  by_cases g : s = p
  · rw [g, zup_self, if_pos rfl]
  · rw [zup_ne2 g, if_neg g, ← h s s1 s2]
    unfold zbd
    rw [show (64 : Int) * 0 + s = s by omega]
theorem zbd_98 {k v : Int} : zbd (zup m 98 k v) 0 = zbd m 0 := by
  funext s
  exact zup_ne (by decide)
theorem zk_196 (row : Int) (hr : 0 ≤ row ∧ row ≤ 7) : ∀ (n : Nat) (M : Nat → Int → Int) (col : Int) (k : Nat) (B : Int → Int) (o3 o4 o5 o6 : Option zmV), 0 ≤ col → col ≤ 8 → 8 ≤ col + n → yRt M 0 w → M 98 7 = k → k ≤ w.length → yAg (zbd M 0) B → zOkB (zbd M 0) → ∃ (M' : Nat → Int → Int) (ok : Int), zmE (zmD zP (d+2)) zc_196 (2, [some (zr 98), some (zi row), some (zi col), o3, o4, o5, o6], [], zW L M) = some (some (zi ok), zW L M') ∧ yFq yPr M M' ∧ ∃ k' : Nat, k' ≤ w.length ∧ M' 98 7 = k' ∧ ∃ B', yAg (zbd M' 0) B' ∧ zOkB (zbd M' 0) ∧ (ok = 1 ∧ (∀ t, yRd (w.drop k) row col 0 B t k = yRd (w.drop k') row 8 0 B' t k') ∨ ok = 0 ∧ ∀ t, (yRd (w.drop k) row col 0 B t k).1 = k' ∧ (yRd (w.drop k) row col 0 B t k).2.1 ≠ 2) := by
  intro n
  induction n with
  | zero =>
    intro M col k B o3 o4 o5 o6 c1 c2 c3 hw hk hkl hB hO
    have : col = 8 := by omega
    subst this
    rw [zb_196_2, if_neg (by decide)]
    exact ⟨M, 1, rfl, yFq_rfl, k, hkl, hk, B, hB, hO, .inl ⟨rfl, fun _ => rfl⟩⟩
  | succ n ih =>
    intro M col k B o3 o4 o5 o6 c1 c2 c3 hw hk hkl hB hO
    have hcap : w.length ≤ 80 := hw.2.2.1
    by_cases hc8 : col = 8
    · subst hc8
      rw [zb_196_2, if_neg (by decide)]
      exact ⟨M, 1, rfl, yFq_rfl, k, hkl, hk, B, hB, hO, .inl ⟨rfl, fun _ => rfl⟩⟩
    rw [zb_196_2, if_pos (by omega), zgi_98, zbs, hk, zcv_98, zk_197t d hw _ (by omega), zbs, zmG_v, zb_196_17, zk_199, zbs, zmG_v, zb_196_22]
    generalize hb : yGet w k = b
    have hbe : (k < w.length ∧ b = w.getD k 0 ∧ w.drop k = b :: w.drop (k + 1)) ∨ (k = w.length ∧ b = -1 ∧ w.drop k = []) := by
      by_cases g : k < w.length
      · refine .inl ⟨g, by rw [← hb, yGet_at g], ?_⟩
        rw [← hb, yGet_at g, ydrop g]
      · refine .inr ⟨by omega, ?_, List.drop_eq_nil_of_le (by omega)⟩
        rw [← hb]
        unfold yGet
        rw [if_neg (by omega)]
    obtain ⟨z1, z2, z3, z4⟩ := zman_b b
    -- the reading's step at this byte
    have dead : (b = -1 ∨ ¬ (49 ≤ b ∧ b ≤ 56) ∧ (zman b = 0 ∨ (zman b = 6 ∨ zman b = 14) ∧ yHk B (zman b)) ∨ (49 ≤ b ∧ b ≤ 56) ∧ 8 < col + (b - 48)) → ∀ t, (yRd (w.drop k) row col 0 B t k).1 = k ∧ (yRd (w.drop k) row col 0 B t k).2.1 ≠ 2 := fun q t => by
      rcases hbe with ⟨e1, e2, e3⟩ | ⟨e1, e2, e3⟩
      · have hbb := (hw.2.2.2 k e1).2
        rw [← e2] at hbb
        rw [e3, yRd_cons, if_neg (by decide), if_neg (by decide)]
        by_cases g1 : 49 ≤ b ∧ b ≤ 56
        · rw [if_pos g1, if_neg (by omega)]
          exact ⟨rfl, by show (3 : Int) ≠ 2; decide⟩
        · rw [if_neg g1]
          by_cases g2 : b = 47 ∨ b = 32
          · rw [if_pos g2, if_neg (fun q => hc8 q.1)]
            exact ⟨rfl, by show (3 : Int) ≠ 2; decide⟩
          · rw [if_neg g2, yT_neg, if_pos rfl]
            · exact ⟨rfl, by show (3 : Int) ≠ 2; decide⟩
            · rintro ⟨q1, -, q2⟩
              rcases q with q | ⟨-, q | q⟩ | q
              · omega
              · exact q1 q
              · exact q2 q
              · exact g1 q.1
      · rw [e3, yRd_nil]
        exact ⟨rfl, by show (0 : Int) ≠ 2; decide⟩
    have stop : ∀ (e : Option zmR), e = some (some (zi 0), zW L M) → (∀ t, (yRd (w.drop k) row col 0 B t k).1 = k ∧ (yRd (w.drop k) row col 0 B t k).2.1 ≠ 2) → ∃ (M' : Nat → Int → Int) (ok : Int), e = some (some (zi ok), zW L M') ∧ yFq yPr M M' ∧ ∃ k' : Nat, k' ≤ w.length ∧ M' 98 7 = k' ∧ ∃ B', yAg (zbd M' 0) B' ∧ zOkB (zbd M' 0) ∧ (ok = 1 ∧ (∀ t, yRd (w.drop k) row col 0 B t k = yRd (w.drop k') row 8 0 B' t k') ∨ ok = 0 ∧ ∀ t, (yRd (w.drop k) row col 0 B t k).1 = k' ∧ (yRd (w.drop k) row col 0 B t k).2.1 ≠ 2) := fun e he q => ⟨M, 0, he, yFq_rfl, k, hkl, hk, B, hB, hO, .inr ⟨rfl, q⟩⟩
    obtain ⟨kh, kn⟩ := zkings_hk hB (k := zman b)
    -- twice
    have e52 : (if zman b = 6 then zmE (zmD zP (d+2)) zc_196 (38, [some (zr 98), some (zi row), some (zi col), some (zi b), some (zi (zman b)), o5, o6], [], zW L M) else if zman b = 14 then zmE (zmD zP (d+2)) zc_196 (38, [some (zr 98), some (zi row), some (zi col), some (zi b), some (zi (zman b)), o5, o6], [], zW L M) else zmE (zmD zP (d+2)) zc_196 (51, [some (zr 98), some (zi row), some (zi col), some (zi b), some (zi (zman b)), o5, o6], [], zW L M)) = zmE (zmD zP (d+2)) zc_196 (52, [some (zr 98), some (zi row), some (zi col), some (zi b), some (zi (zman b)), o5, o6], [zi (yT ((zman b = 6 ∨ zman b = 14) ∧ yHk B (zman b)))], zW L M) := by
      have e38 : (zman b = 6 ∨ zman b = 14) → zmE (zmD zP (d+2)) zc_196 (38, [some (zr 98), some (zi row), some (zi col), some (zi b), some (zi (zman b)), o5, o6], [], zW L M) = zmE (zmD zP (d+2)) zc_196 (52, [some (zr 98), some (zi row), some (zi col), some (zi b), some (zi (zman b)), o5, o6], [zi (yT ((zman b = 6 ∨ zman b = 14) ∧ yHk B (zman b)))], zW L M) := fun q => by
        rw [zb_196_38, zcv_98, zk_200, zbs, zmG_v, zb_196_44]
        by_cases g : 0 < zkings M (zman b) 64
        · rw [if_pos g, yT_pos ⟨q, kh.mp g⟩]
        · rw [if_neg g, yT_neg (fun q2 => g (kh.mpr q2.2)), zb_196_51]
      by_cases g6 : zman b = 6
      · rw [if_pos g6, e38 (.inl g6)]
      · rw [if_neg g6]
        by_cases g14 : zman b = 14
        · rw [if_pos g14, e38 (.inr g14)]
        · rw [if_neg g14, zb_196_51, yT_neg (fun q => q.1.elim g6 g14)]
    rw [e52]
    have e76 : zmE (zmD zP (d+2)) zc_196 (52, [some (zr 98), some (zi row), some (zi col), some (zi b), some (zi (zman b)), o5, o6], [zi (yT ((zman b = 6 ∨ zman b = 14) ∧ yHk B (zman b)))], zW L M) = zmE (zmD zP (d+2)) zc_196 (76, [some (zr 98), some (zi row), some (zi col), some (zi b), some (zi (zman b)), some (zi (yT ((zman b = 6 ∨ zman b = 14) ∧ yHk B (zman b)))), o6], [zi (if 49 ≤ b ∧ b ≤ 56 then b - 48 else 0)], zW L M) := by
      rw [zb_196_52, zk_201, zbs, zmG_v, zb_196_65]
      by_cases g : 49 ≤ b ∧ b ≤ 56
      · rw [if_neg (fun q => zB_z.mp q g), if_pos g, w32_of (by omega) (by omega)]
      · rw [if_pos (zB_z.mpr g), if_neg g]
    rw [e76, zb_196_76]
    by_cases gm : zman b = 0
    · rw [if_pos gm]
      by_cases gd : 49 ≤ b ∧ b ≤ 56
      · have e88 : yT ((zman b = 6 ∨ zman b = 14) ∧ yHk B (zman b)) = 0 := yT_neg (by omega)
        rw [if_pos gd, if_neg (by omega), zb_196_88, if_pos e88, w32_of (by omega) (by omega)]
        by_cases g8 : 8 < col + (b - 48)
        · rw [if_pos g8]
          exact stop _ rfl (dead (.inr (.inr ⟨gd, g8⟩)))
        · rcases hbe with ⟨e1, e2, e3⟩ | ⟨e1, e2, e3⟩
          · rw [if_neg g8, if_neg (by omega), zb_196_122, if_neg (by omega), zb_196_134, zgi_98, zbs, hk, zpi_98, zbs, w32_of (by omega) (by omega), w32_of (by omega) (by omega)]
            have hF : yFq yPr M (zup M 98 7 ((k : Int) + 1)) := yFq_up yFq_rfl (.inl ⟨rfl, rfl⟩)
            obtain ⟨M', ok, r1, r2, k', r3, r4, B', r5, r6, r7⟩ := ih (zup M 98 7 ((k : Int) + 1)) (col + (b - 48)) (k + 1) B (some (zi b)) (some (zi (zman b))) (some (zi (yT ((zman b = 6 ∨ zman b = 14) ∧ yHk B (zman b))))) (some (zi (b - 48))) (by omega) (by omega) (by omega) (yRt_fr hw (yFq_wd hF yPr_b) fun j => yPb_no) (by rw [zup_self, Int.natCast_succ]) (by omega) (by rw [zbd_98]; exact hB) (by rw [zbd_98]; exact hO)
            have hs : ∀ t, yRd (w.drop k) row col 0 B t k = yRd (w.drop (k + 1)) row (col + (b - 48)) 0 B t ((k + 1 : Nat) : Int) := fun t => by
              rw [e3, yRd_cons, if_neg (by decide), if_neg (by decide), if_pos gd, if_pos (by omega), Int.natCast_succ]
            refine ⟨M', ok, r1, yFq_tr hF r2, k', r3, r4, B', r5, r6, ?_⟩
            rcases r7 with ⟨q1, q2⟩ | ⟨q1, q2⟩
            · exact .inl ⟨q1, fun t => by rw [hs, q2]⟩
            · exact .inr ⟨q1, fun t => by rw [hs]; exact q2 t⟩
          · omega
      · rw [if_neg gd, if_pos rfl]
        exact stop _ rfl (dead (.inr (.inl ⟨gd, .inl gm⟩)))
    · have gd : ¬ (49 ≤ b ∧ b ≤ 56) := fun q => gm (z2 q)
      have gs : ¬ (b = 47 ∨ b = 32) := fun q => gm (z3 q)
      rw [if_neg gm, if_neg gd, zb_196_88]
      by_cases g2 : (zman b = 6 ∨ zman b = 14) ∧ yHk B (zman b)
      · rw [yT_pos g2, if_neg (by decide)]
        exact stop _ rfl (dead (.inr (.inl ⟨gd, .inr g2⟩)))
      · rcases hbe with ⟨e1, e2, e3⟩ | ⟨e1, e2, e3⟩
        · rw [yT_neg g2, if_pos rfl, w32_of (by omega) (by omega), if_neg (by omega), if_pos (by omega), zgr_98_8, zbs, w32_of (z := 8 * row) (by omega) (by omega), w32_of (z := 8 * row + col) (by omega) (by omega), zsi_105 (by omega) (by omega), zbs, zb_196_122, if_pos (by omega), zb_196_134, zgi_98, zbs, zup_ne (by decide), hk, zpi_98, zbs, w32_of (by omega) (by omega), w32_of (by omega) (by omega)]
          have hF : yFq yPr M (zup (zup M 105 (8 * row + col) (zman b)) 98 7 ((k : Int) + 1)) := yFq_up (yFq_up yFq_rfl (.inr ⟨rfl, by omega, by omega⟩)) (.inl ⟨rfl, rfl⟩)
          have hB' : yAg (zbd (zup (zup M 105 (8 * row + col) (zman b)) 98 7 ((k : Int) + 1)) 0) (ySet B (8 * row + col) (zman b)) := by
            rw [zbd_98]
            exact zbd_set ⟨by omega, by omega⟩ hB
          obtain ⟨M', ok, r1, r2, k', r3, r4, B', r5, r6, r7⟩ := ih (zup (zup M 105 (8 * row + col) (zman b)) 98 7 ((k : Int) + 1)) (col + 1) (k + 1) (ySet B (8 * row + col) (zman b)) (some (zi b)) (some (zi (zman b))) (some (zi 0)) (some (zi 0)) (by omega) (by omega) (by omega) (yRt_fr hw (yFq_wd hF yPr_b) fun j => yPb_no) (by rw [zup_self, Int.natCast_succ]) (by omega) hB' (fun s s1 s2 => by
            rw [hB' s s1 s2]
            unfold ySet
            split
            · exact z1
            · rw [← hB s s1 s2]
              exact hO s s1 s2)
          have hs : ∀ t, yRd (w.drop k) row col 0 B t k = yRd (w.drop (k + 1)) row (col + 1) 0 (ySet B (8 * row + col) (zman b)) t ((k + 1 : Nat) : Int) := fun t => by
            rw [e3, yRd_cons, if_neg (by decide), if_neg (by decide), if_neg gd, if_neg gs, yT_pos ⟨gm, by omega, g2⟩, if_neg (by decide), Int.natCast_succ]
          refine ⟨M', ok, r1, yFq_tr hF r2, k', r3, r4, B', r5, r6, ?_⟩
          rcases r7 with ⟨q1, q2⟩ | ⟨q1, q2⟩
          · exact .inl ⟨q1, fun t => by rw [hs, q2]⟩
          · exact .inr ⟨q1, fun t => by rw [hs]; exact q2 t⟩
        · rw [e2] at gm
          exact absurd z4 gm
theorem zk_202 (hw : yRt m 0 w) (k : Nat) (hk : m 98 7 = k) (hkl : k ≤ w.length) (b : Int) (hb : b = 47 ∨ b = 32) : (zmD zP (d + 3) 202 [zr 98, zi b] (zW L m) = some (some (zi 1), zW L (zup m 98 7 ((k : Int) + 1))) ∧ k < w.length ∧ w.drop k = b :: w.drop (k + 1)) ∨ (zmD zP (d + 3) 202 [zr 98, zi b] (zW L m) = some (some (zi 0), zW L m) ∧ (w.drop k = [] ∨ ∃ c, c ≠ b ∧ w.drop k = c :: w.drop (k + 1))) := by
  have hcap : w.length ≤ 80 := hw.2.2.1
  rw [zen_202, zb_202_0, zgi_98, zbs, hk, zcv_98, zk_197t d hw _ (by omega), zbs, zmG_v, zb_202_9]
  by_cases g : k < w.length
  · rw [yGet_at g]
    by_cases g2 : w.getD k 0 = b
    · rw [if_pos g2, zgi_98, zbs, hk, zpi_98, zbs, w32_of (by omega) (by omega)]
      exact .inl ⟨rfl, g, by rw [ydrop g, g2]⟩
    · rw [if_neg g2]
      exact .inr ⟨rfl, .inr ⟨_, g2, ydrop g⟩⟩
  · have e : yGet w k = -1 := by
      unfold yGet
      rw [if_neg (by omega)]
    rw [e, if_neg (by omega)]
    exact .inr ⟨rfl, .inl (List.drop_eq_nil_of_le (by omega))⟩
end ZR
