/-! readsBoard, goesHome, boardFault of the reference -/
def yPc (x : Nat) (j : Int) : Prop := x = 98 ∧ j = 7 ∨ x = 105 ∧ 0 ≤ j ∧ j < 64 ∨ x = 106 ∧ j = 0
theorem yPc_b : ∀ x j, yPc x j → yPb x j := fun x j h => by
  rcases h with ⟨h1, h2⟩ | h | h
  · exact .inl ⟨h1, .inl h2⟩
  · exact .inr (.inl h)
  · exact .inr (.inr h)
theorem yPr_c : ∀ x j, yPr x j → yPc x j := fun x j h => h.imp id .inl
section ZR
variable {L : Nat} {m : Nat → Int → Int} (d : Nat) {w : List Int}
theorem zk_195 (hw : yRt m 0 w) : ∃ m', zmD zP (d + 4) 195 [zr 98] (zW L m) = some (some (zi (yHome w).1), zW L m') ∧ yFq yPc m m' ∧ zOkB (zbd m' 0) ∧ ((yHome w).1 = -1 → yAg (zbd m' 0) (yHome w).2.1 ∧ m' 106 0 = (yHome w).2.2) := by
  have hcap : w.length ≤ 80 := hw.2.2.1
  have hHome : ∀ r, yRd w 7 0 0 (fun _ => 0) 0 0 = r → yHome w = if yT (yGood r) = 0 then (r.1, yB0, 0) else (-1, r.2.2.1, r.2.2.2) := fun r hr => by
    unfold yHome
    rw [hr]
  have hbad : ∀ k : Nat, (yRd w 7 0 0 (fun _ => 0) 0 0).1 = k → (yRd w 7 0 0 (fun _ => 0) 0 0).2.1 ≠ 2 → (yHome w).1 = k := fun k h1 h2 => by
    rw [hHome _ rfl, yT_neg (fun q => h2 q.1), if_pos rfl]
    exact h1
  -- an answer that tells a fault
  have ret : ∀ (e : Option zmR) (M : Nat → Int → Int) (k : Nat), e = some (some (zi k), zW L M) → yFq yPc m M → zOkB (zbd M 0) → (yHome w).1 = k → ∃ m', e = some (some (zi (yHome w).1), zW L m') ∧ yFq yPc m m' ∧ zOkB (zbd m' 0) ∧ ((yHome w).1 = -1 → yAg (zbd m' 0) (yHome w).2.1 ∧ m' 106 0 = (yHome w).2.2) := fun e M k h1 h2 h3 h4 => ⟨M, by rw [h1, h4], h2, h3, fun q => by omega⟩
  -- side and end
  have side : ∀ (M : Nat → Int → Int) (k : Nat) (B : Int → Int) (l1 : Int), l1 < 0 → yFq yPc m M → M 98 7 = k → k ≤ w.length → yAg (zbd M 0) B → zOkB (zbd M 0) → yRd w 7 0 0 (fun _ => 0) 0 0 = yRd (w.drop k) 0 8 1 B 0 k → ∃ m', zmE (zmD zP (d+3)) zc_195 (29, [some (zr 98), some (zi l1)], [], zW L M) = some (some (zi (yHome w).1), zW L m') ∧ yFq yPc m m' ∧ zOkB (zbd m' 0) ∧ ((yHome w).1 = -1 → yAg (zbd m' 0) (yHome w).2.1 ∧ m' 106 0 = (yHome w).2.2) := fun M k B l1 hl1 hF hk hkl hB hO hr => by
    have hwM := yRt_fr hw (yFq_wd hF yPc_b) fun j => yPb_no
    rw [zb_195_29, if_pos hl1, zgi_98, zbs, hk, zcv_98, zk_197t (d + 1) hwM _ (by omega), zbs, zmG_v, zb_195_79]
    have k97 : ∀ b t : Int, (b = 119 ∧ t = 0 ∨ b = 98 ∧ t = 8) → k < w.length → w.drop k = b :: w.drop (k + 1) → ∃ m', zmE (zmD zP (d+3)) zc_195 (97, [some (zr 98), some (zi b)], [], zW L M) = some (some (zi (yHome w).1), zW L m') ∧ yFq yPc m m' ∧ zOkB (zbd m' 0) ∧ ((yHome w).1 = -1 → yAg (zbd m' 0) (yHome w).2.1 ∧ m' 106 0 = (yHome w).2.2) := fun b t hbt hk2 hdr => by
      have e114 : (if b = 119 then zmE (zmD zP (d+3)) zc_195 (114, [some (zr 98), some (zi b)], [zi 0, zi 0, zr 106], zW L M) else zmE (zmD zP (d+3)) zc_195 (114, [some (zr 98), some (zi b)], [zi 8, zi 0, zr 106], zW L M)) = zmE (zmD zP (d+3)) zc_195 (114, [some (zr 98), some (zi b)], [zi t, zi 0, zr 106], zW L M) := by
        rcases hbt with ⟨q1, q2⟩ | ⟨q1, q2⟩
        · rw [if_pos q1, q2]
        · rw [if_neg (by omega), q2]
      have hr2 : yRd w 7 0 0 (fun _ => 0) 0 0 = yRd (w.drop (k + 1)) 0 8 2 B t ((k : Int) + 1) := by
        rw [hr, hdr, yRd_cons, if_pos rfl]
        rcases hbt with ⟨q1, q2⟩ | ⟨q1, q2⟩
        · rw [if_pos q1, q2]
        · rw [if_neg (by omega), if_pos q1, q2]
      have hF2 : yFq yPc m (zup (zup M 106 0 t) 98 7 ((k : Int) + 1)) := yFq_up (yFq_up hF (.inr (.inr ⟨rfl, rfl⟩))) (.inl ⟨rfl, rfl⟩)
      have hbd : zbd (zup (zup M 106 0 t) 98 7 ((k : Int) + 1)) 0 = zbd M 0 := by
        rw [zbd_98]
        funext s
        exact zup_ne (by decide)
      have hw2 := yRt_fr hw (yFq_wd hF2 yPc_b) fun j => yPb_no
      have hB2 : yAg (zbd (zup (zup M 106 0 t) 98 7 ((k : Int) + 1)) 0) B := by rw [hbd]; exact hB
      have at1 : zup (zup M 106 0 t) 98 7 ((k : Int) + 1) 98 7 = (k : Int) + 1 := zup_self
      have t1 : zup (zup M 106 0 t) 98 7 ((k : Int) + 1) 106 0 = t := by rw [zup_ne (by decide), zup_self]
      rw [zb_195_97, zgr_98_9, zbs, e114, zb_195_114, zsi_106 (by decide) (by decide), zbs, zgi_98, zbs, zup_ne (by decide), hk, zpi_98, zbs, w32_of (by omega) (by omega)]
      generalize zup (zup M 106 0 t) 98 7 ((k : Int) + 1) = M2 at *
      have last : ∀ (h : (yRd w 7 0 0 (fun _ => 0) 0 0).2.1 ≠ 2 ∨ ¬ yHk B 6 ∨ ¬ yHk B 14), (yRd w 7 0 0 (fun _ => 0) 0 0).1 = ((k + 1 : Nat) : Int) → (yRd w 7 0 0 (fun _ => 0) 0 0).2.2.1 = B → ∃ m', zmE (zmD zP (d+3)) zc_195 (156, [some (zr 98), some (zi b)], [], zW L M2) = some (some (zi (yHome w).1), zW L m') ∧ yFq yPc m m' ∧ zOkB (zbd m' 0) ∧ ((yHome w).1 = -1 → yAg (zbd m' 0) (yHome w).2.1 ∧ m' 106 0 = (yHome w).2.2) := fun h h2 h3 => by
        refine ret _ M2 (k + 1) ?_ hF2 (by rw [hbd]; exact hO) ?_
        · rw [zb_195_156, zgi_98, zbs, at1, Int.natCast_succ]
        · rw [hHome _ rfl, yT_neg, if_pos rfl]
          · exact h2
          · rintro ⟨q1, q2, q3⟩
            rw [h3] at q2 q3
            rcases h with h | h | h
            · exact h q1
            · exact h q2
            · exact h q3
      rw [zgi_98, zbs, at1, zgr_98_6, zbs, zai_104 (by decide) (by decide), zbs, hw2.2.1]
      by_cases g : (k : Int) + 1 < w.length
      · rw [if_pos g]
        have hd2 := ydrop (w := w) (i := k + 1) (by omega)
        rw [hd2, yRd_cons, if_neg (by decide), if_pos rfl] at hr2
        exact last (.inl (by rw [hr2]; show (3 : Int) ≠ 2; decide)) (by rw [hr2, Int.natCast_succ]) (by rw [hr2])
      · rw [List.drop_eq_nil_of_le (by omega), yRd_nil] at hr2
        obtain ⟨k1, k2⟩ := zkings_hk hB2 (k := 6)
        obtain ⟨k3, k4⟩ := zkings_hk hB2 (k := 14)
        rw [if_neg g, zcv_98, zk_200, zbs, zmG_v, zb_195_144]
        by_cases g6 : zkings M2 6 64 = 0
        · rw [if_pos g6]
          exact last (.inr (.inl fun q => by have := k1.mpr q; omega)) (by rw [hr2, Int.natCast_succ]) (by rw [hr2])
        · rw [if_neg g6, zcv_98, zk_200, zbs, zmG_v, zb_195_153]
          by_cases g14 : zkings M2 14 64 = 0
          · rw [if_pos g14]
            exact last (.inr (.inr fun q => by have := k3.mpr q; omega)) (by rw [hr2, Int.natCast_succ]) (by rw [hr2])
          · have hh := hHome _ hr2
            have hgood : yGood ((k : Int) + 1, 2, B, t) := ⟨rfl, k1.mp (by omega), k3.mp (by omega)⟩
            rw [yT_pos hgood, if_neg (by decide)] at hh
            rw [if_neg g14, hh]
            exact ⟨M2, rfl, hF2, by rw [hbd]; exact hO, fun _ => ⟨hB2, t1⟩⟩
    by_cases g : k < w.length
    · have hdr := ydrop g
      rw [yGet_at g]
      by_cases g1 : w.getD k 0 = 119
      · rw [if_pos g1]
        exact k97 _ 0 (.inl ⟨g1, rfl⟩) g hdr
      · rw [if_neg g1]
        by_cases g2 : w.getD k 0 = 98
        · rw [if_pos g2]
          exact k97 _ 8 (.inr ⟨g2, rfl⟩) g hdr
        · rw [hdr, yRd_cons, if_pos rfl, if_neg g1, if_neg g2] at hr
          rw [if_neg g2, zgi_98, zbs, hk]
          exact ret _ M k rfl hF hO (hbad k (by rw [hr]) (by rw [hr]; show (3 : Int) ≠ 2; decide))
    · have e : yGet w k = -1 := by
        unfold yGet
        rw [if_neg (by omega)]
      rw [List.drop_eq_nil_of_le (by omega), yRd_nil] at hr
      rw [e, if_neg (by decide), if_neg (by decide), zgi_98, zbs, hk]
      exact ret _ M k rfl hF hO (hbad k (by rw [hr]) (by rw [hr]; show (1 : Int) ≠ 2; decide))
  -- rows
  have rows : ∀ (n : Nat) (M : Nat → Int → Int) (k : Nat) (B : Int → Int), n ≤ 7 → yFq yPc m M → M 98 7 = k → k ≤ w.length → yAg (zbd M 0) B → zOkB (zbd M 0) → yRd w 7 0 0 (fun _ => 0) 0 0 = yRd (w.drop k) n 0 0 B 0 k → ∃ m', zmE (zmD zP (d+3)) zc_195 (29, [some (zr 98), some (zi n)], [], zW L M) = some (some (zi (yHome w).1), zW L m') ∧ yFq yPc m m' ∧ zOkB (zbd m' 0) ∧ ((yHome w).1 = -1 → yAg (zbd m' 0) (yHome w).2.1 ∧ m' 106 0 = (yHome w).2.2) := by
    intro n
    induction n with
    | zero =>
      intro M k B hn hF hk hkl hB hO hr
      have hwM := yRt_fr hw (yFq_wd hF yPc_b) fun j => yPb_no
      obtain ⟨M', ok, r1, r2, k', r3, r4, B', r5, r6, r7⟩ := zk_196 (L := L) d 0 (by decide) 8 M 0 k B none none none none (by decide) (by decide) (by decide) hwM hk hkl hB hO
      have hF' := yFq_tr hF (yFq_wd r2 yPr_c)
      have e196 : zmD zP (d + 3) 196 [zr 98, zi 0] (zW L M) = some (some (zi ok), zW L M') := by
        rw [zen_196, zb_196_0]
        exact r1
      show ∃ m', zmE (zmD zP (d+3)) zc_195 (29, [some (zr 98), some (zi 0)], [], zW L M) = _ ∧ _
      rw [zb_195_29, if_neg (by decide), zcv_98, e196, zbs, zmG_v, zb_195_38]
      rcases r7 with ⟨q1, q2⟩ | ⟨q1, q2⟩
      · rw [q1, if_neg (by decide), if_neg (by decide), zb_195_53, zcv_98]
        have hw' := yRt_fr hw (yFq_wd hF' yPc_b) fun j => yPb_no
        have hr' : yRd w 7 0 0 (fun _ => 0) 0 0 = yRd (w.drop k') 0 8 0 B' 0 k' := hr.trans (q2 0)
        rcases zk_202 (L := L) (m := M') d hw' k' r4 r3 32 (.inr rfl) with ⟨t1, t2, t3⟩ | ⟨t1, t2⟩
        · rw [t1, zbs, zmG_v, zb_195_56, if_neg (by decide)]
          refine side (zup M' 98 7 ((k' : Int) + 1)) (k' + 1) B' _ (by decide) (yFq_up hF' (.inl ⟨rfl, rfl⟩)) (by rw [zup_self, Int.natCast_succ]) (by omega) (by rw [zbd_98]; exact r5) (by rw [zbd_98]; exact r6) ?_
          rw [hr', t3, yRd_cons, if_neg (by decide), if_neg (by decide), if_neg (by decide), if_pos (.inr rfl), if_pos ⟨rfl, by decide⟩, if_pos rfl, Int.natCast_succ]
        · rw [t1, zbs, zmG_v, zb_195_56, if_pos rfl, zb_195_59, zgi_98, zbs, r4]
          rcases t2 with t2 | ⟨c, c1, t2⟩
          · rw [t2, yRd_nil] at hr'
            exact ret _ M' k' rfl hF' r6 (hbad k' (by rw [hr']) (by rw [hr']; show (0 : Int) ≠ 2; decide))
          · have hd : yRd (w.drop k') 0 8 0 B' 0 k' = ((k' : Int), 3, B', 0) := by
              rw [t2, yRd_cons, if_neg (by decide), if_neg (by decide)]
              by_cases x1 : 49 ≤ c ∧ c ≤ 56
              · rw [if_pos x1, if_neg (by omega)]
              · rw [if_neg x1]
                by_cases x2 : c = 47 ∨ c = 32
                · rw [if_pos x2, if_neg (fun q => c1 (q.2.mp rfl))]
                · rw [if_neg x2, yT_neg (fun q => absurd q.2.1 (by decide)), if_pos rfl]
            rw [hd] at hr'
            exact ret _ M' k' rfl hF' r6 (hbad k' (by rw [hr']) (by rw [hr']; show (3 : Int) ≠ 2; decide))
      · obtain ⟨x1, x2⟩ := q2 0
        have hr2 : yRd w 7 0 0 (fun _ => 0) 0 0 = yRd (w.drop k) 0 0 0 B 0 k := hr
        rw [q1, if_pos rfl, zb_195_59, zgi_98, zbs, r4]
        exact ret _ M' k' rfl hF' r6 (hbad k' (by rw [hr2]; exact x1) (by rw [hr2]; exact x2))
    | succ n ih =>
      intro M k B hn hF hk hkl hB hO hr
      have hwM := yRt_fr hw (yFq_wd hF yPc_b) fun j => yPb_no
      obtain ⟨M', ok, r1, r2, k', r3, r4, B', r5, r6, r7⟩ := zk_196 (L := L) d ((n + 1 : Nat) : Int) (by omega) 8 M 0 k B none none none none (by decide) (by decide) (by decide) hwM hk hkl hB hO
      have hF' := yFq_tr hF (yFq_wd r2 yPr_c)
      have e196 : zmD zP (d + 3) 196 [zr 98, zi ((n + 1 : Nat) : Int)] (zW L M) = some (some (zi ok), zW L M') := by
        rw [zen_196, zb_196_0]
        exact r1
      rw [zb_195_29, if_neg (by omega), zcv_98, e196, zbs, zmG_v, zb_195_38]
      rcases r7 with ⟨q1, q2⟩ | ⟨q1, q2⟩
      · rw [q1, if_neg (by decide), if_pos (by omega), zb_195_53, zcv_98]
        have hw' := yRt_fr hw (yFq_wd hF' yPc_b) fun j => yPb_no
        have hr' : yRd w 7 0 0 (fun _ => 0) 0 0 = yRd (w.drop k') ((n + 1 : Nat) : Int) 8 0 B' 0 k' := hr.trans (q2 0)
        rcases zk_202 (L := L) (m := M') d hw' k' r4 r3 47 (.inl rfl) with ⟨t1, t2, t3⟩ | ⟨t1, t2⟩
        · rw [t1, zbs, zmG_v, zb_195_56, if_neg (by decide), w32_of (by omega) (by omega), show ((n + 1 : Nat) : Int) + -1 = n by omega]
          refine ih (zup M' 98 7 ((k' : Int) + 1)) (k' + 1) B' (by omega) (yFq_up hF' (.inl ⟨rfl, rfl⟩)) (by rw [zup_self, Int.natCast_succ]) (by omega) (by rw [zbd_98]; exact r5) (by rw [zbd_98]; exact r6) ?_
          rw [hr', t3, yRd_cons, if_neg (by decide), if_neg (by decide), if_neg (by decide), if_pos (.inl rfl), if_pos ⟨rfl, by omega⟩, if_neg (by omega), Int.natCast_succ, Int.natCast_succ, show (n : Int) + 1 - 1 = n by omega]
        · rw [t1, zbs, zmG_v, zb_195_56, if_pos rfl, zb_195_59, zgi_98, zbs, r4]
          rcases t2 with t2 | ⟨c, c1, t2⟩
          · rw [t2, yRd_nil] at hr'
            exact ret _ M' k' rfl hF' r6 (hbad k' (by rw [hr']) (by rw [hr']; show (0 : Int) ≠ 2; decide))
          · have hd : yRd (w.drop k') ((n + 1 : Nat) : Int) 8 0 B' 0 k' = ((k' : Int), 3, B', 0) := by
              rw [t2, yRd_cons, if_neg (by decide), if_neg (by decide)]
              by_cases x1 : 49 ≤ c ∧ c ≤ 56
              · rw [if_pos x1, if_neg (by omega)]
              · rw [if_neg x1]
                by_cases x2 : c = 47 ∨ c = 32
                · rw [if_pos x2, if_neg (by omega)]
                · rw [if_neg x2, yT_neg (fun q => absurd q.2.1 (by decide)), if_pos rfl]
            rw [hd] at hr'
            exact ret _ M' k' rfl hF' r6 (hbad k' (by rw [hr']) (by rw [hr']; show (3 : Int) ≠ 2; decide))
      · obtain ⟨x1, x2⟩ := q2 0
        rw [q1, if_pos rfl, zb_195_59, zgi_98, zbs, r4]
        exact ret _ M' k' rfl hF' r6 (hbad k' (by rw [hr]; exact x1) (by rw [hr]; exact x2))
  -- the start
  suffices go : ∀ n i : Nat, i + n = 64 → ∀ M, yFq yPc m M → M 98 7 = 0 → (∀ s : Int, 0 ≤ s → s < i → M 105 s = 0) → ∃ m', zmE (zmD zP (d+3)) zc_195 (7, [some (zr 98), some (zi i)], [], zW L M) = some (some (zi (yHome w).1), zW L m') ∧ yFq yPc m m' ∧ zOkB (zbd m' 0) ∧ ((yHome w).1 = -1 → yAg (zbd m' 0) (yHome w).2.1 ∧ m' 106 0 = (yHome w).2.2) by
    have e := go 64 0 rfl (zup m 98 7 0) (yFq_up yFq_rfl (.inl ⟨rfl, rfl⟩)) zup_self (fun s s1 s2 => by rw [Int.natCast_zero] at s2; omega)
    rw [zen_195, zb_195_0, zpi_98, zbs]
    exact e
  intro n
  induction n with
  | zero =>
    intro i hi M hF h7 h0
    have hz : yAg (zbd M 0) (fun _ => 0) := fun s s1 s2 => by
      unfold zbd
      rw [show (64 : Int) * 0 + s = s by omega]
      exact h0 s s1 (by omega)
    rw [zb_195_7, if_neg (by omega)]
    exact rows 7 M 0 (fun _ => 0) (Nat.le_refl 7) hF h7 (Nat.zero_le _) hz (fun s s1 s2 => by rw [hz s s1 s2]; exact ⟨Int.le_refl 0, by show (0 : Int) ≤ 14; decide⟩) rfl
  | succ n ih =>
    intro i hi M hF h7 h0
    rw [zb_195_7, if_pos (by omega), zgr_98_8, zbs, zsi_105 (by omega) (by omega), zbs, w32_of (by omega) (by omega)]
    have e := ih (i + 1) (by omega) (zup M 105 i 0) (yFq_up hF (.inr (.inl ⟨rfl, by omega, by omega⟩))) (by rw [zup_ne (by decide)]; exact h7) (fun s s1 s2 => by
      by_cases g : s = i
      · rw [g, zup_self]
      · rw [zup_ne2 g]
        exact h0 s s1 (by omega))
    rw [Int.natCast_succ] at e
    exact e
theorem yB0_ok : zOkB yB0 := fun s _ _ => by
  unfold yB0
  split
  · decide
  · split <;> decide
theorem zk_194 (hw : yRt m 0 w) : ∃ m', zmD zP (d + 5) 194 [zr 98] (zW L m) = some (some (zi (yHome w).1), zW L m') ∧ yFq yPb m m' ∧ zOkB (zbd m' 0) ∧ yAg (zbd m' 0) (yHome w).2.1 ∧ m' 106 0 = (yHome w).2.2 ∧ m' 98 10 = 0 := by
  have hw1 : yRt (zup m 98 10 0) 0 w := yRt_fr (P := yPb) hw (yFq_up yFq_rfl (.inl ⟨rfl, .inr rfl⟩)) fun j => yPb_no
  obtain ⟨M, r1, r2, r3, r4⟩ := zk_195 (L := L) d hw1
  have hF : yFq yPb m M := yFq_tr (yFq_up (m' := m) (k := 10) (z := 0) yFq_rfl (.inl ⟨rfl, .inr rfl⟩)) (yFq_wd r2 yPc_b)
  have k10 : M 98 10 = 0 := (r2 98 10 (by
    rintro (⟨-, q⟩ | ⟨q, -⟩ | ⟨q, -⟩)
    · exact absurd q (by decide)
    · exact absurd q (by decide)
    · exact absurd q (by decide))).trans zup_self
  rw [zen_194, zb_194_0, zpi_98, zbs, zcv_98, r1, zbs, zmG_v, zb_194_9]
  by_cases g : (yHome w).1 = -1
  · rw [if_pos g]
    exact ⟨M, rfl, hF, r3, (r4 g).1, (r4 g).2, k10⟩
  · have hh : (yHome w).2 = (yB0, 0) := by
      unfold yHome at g ⊢
      split
      · rfl
      · rename_i q
        rw [if_neg q] at g
        exact absurd rfl g
    rw [if_neg g, hh]
    suffices go : ∀ n i : Nat, i + n = 64 → ∀ M, yFq yPb m M → M 98 10 = 0 → (∀ s : Int, 0 ≤ s → s < i → M 105 s = yB0 s) → ∃ m', zmE (zmD zP (d+4)) zc_194 (17, [some (zr 98), some (zi ((yHome w).1)), some (zi i)], [], zW L M) = some (some (zi (yHome w).1), zW L m') ∧ yFq yPb m m' ∧ zOkB (zbd m' 0) ∧ yAg (zbd m' 0) yB0 ∧ m' 106 0 = 0 ∧ m' 98 10 = 0 from go 64 0 rfl M hF k10 (fun s s1 s2 => by rw [Int.natCast_zero] at s2; omega)
    intro n
    induction n with
    | zero =>
      intro i hi M hF h7 h0
      have hz : yAg (zbd (zup M 106 0 0) 0) yB0 := fun s s1 s2 => by
        unfold zbd
        rw [show (64 : Int) * 0 + s = s by omega, zup_ne (by decide)]
        exact h0 s s1 (by omega)
      rw [zb_194_17, if_neg (by omega), zgr_98_9, zbs, zsi_106 (by decide) (by decide), zbs]
      exact ⟨_, rfl, yFq_up hF (.inr (.inr ⟨rfl, rfl⟩)), fun s s1 s2 => by rw [hz s s1 s2]; exact yB0_ok s s1 s2, hz, zup_self, by rw [zup_ne (by decide)]; exact h7⟩
    | succ n ih =>
      intro i hi M hF h7 h0
      have e49 : (if (i : Int) = 0 then zmE (zmD zP (d+4)) zc_194 (49, [some (zr 98), some (zi ((yHome w).1)), some (zi i)], [zi 6, zi i, zr 105], zW L M) else if (i : Int) = 63 then zmE (zmD zP (d+4)) zc_194 (49, [some (zr 98), some (zi ((yHome w).1)), some (zi i)], [zi 14, zi i, zr 105], zW L M) else zmE (zmD zP (d+4)) zc_194 (49, [some (zr 98), some (zi ((yHome w).1)), some (zi i)], [zi 0, zi i, zr 105], zW L M)) = zmE (zmD zP (d+4)) zc_194 (49, [some (zr 98), some (zi ((yHome w).1)), some (zi i)], [zi (yB0 i), zi i, zr 105], zW L M) := by
        unfold yB0
        repeat' split
        all_goals rfl
      rw [zb_194_17, if_pos (by omega), zgr_98_8, zbs, e49, zb_194_49, zsi_105 (by omega) (by omega), zbs, w32_of (by omega) (by omega)]
      have e := ih (i + 1) (by omega) (zup M 105 i (yB0 i)) (yFq_up hF (.inr (.inl ⟨rfl, by omega, by omega⟩))) (by rw [zup_ne (by decide)]; exact h7) (fun s s1 s2 => by
        by_cases g : s = i
        · rw [g, zup_self]
        · rw [zup_ne2 g]
          exact h0 s s1 (by omega))
      rw [Int.natCast_succ] at e
      exact e
def yPf (x : Nat) (j : Int) : Prop := x = 98 ∧ j = 7 ∨ x = 105 ∧ 192 ≤ j
theorem zk_217 (hw : yRt m 0 w) : ∃ m', zmD zP (d + 5) 217 [zr 98] (zW L m) = some (some (zi (yHome w).1), zW L m') ∧ yFq yPf m m' := by
  -- kept aside
  have save : ∀ n i : Nat, i + n = 64 → ∀ M : Nat → Int → Int, yFq yPf m M → (∀ s : Int, 0 ≤ s → s < i → M 105 (192 + s) = m 105 s) → ∃ M2 : Nat → Int → Int, zmE (zmD zP (d+4)) zc_217 (2, [some (zr 98), some (zi i), none, none], [], zW L M) = zmE (zmD zP (d+4)) zc_217 (2, [some (zr 98), some (zi 64), none, none], [], zW L M2) ∧ yFq yPf m M2 ∧ ∀ s : Int, 0 ≤ s → s < 64 → M2 105 (192 + s) = m 105 s := by
    intro n
    induction n with
    | zero =>
      intro i hi M hF h0
      have : i = 64 := by omega
      subst this
      exact ⟨M, rfl, hF, fun s s1 s2 => h0 s s1 s2⟩
    | succ n ih =>
      intro i hi M hF h0
      have e1 : M 105 i = m 105 i := hF 105 i (by
        rintro (⟨q, -⟩ | ⟨-, q⟩)
        · exact absurd q (by decide)
        · omega)
      rw [zb_217_2, if_pos (by omega), zgr_98_8, zbs, zbs, zai_105 (by omega) (by omega), zbs, w32_of (z := 192 + (i : Int)) (by omega) (by omega), zsi_105 (by omega) (by omega), zbs, w32_of (by omega) (by omega), e1]
      have e := ih (i + 1) (by omega) (zup M 105 (192 + (i : Int)) (m 105 i)) (yFq_up hF (.inr ⟨rfl, by omega⟩)) (fun s s1 s2 => by
        by_cases g : s = i
        · rw [g, zup_self]
        · rw [zup_ne2 (by omega)]
          exact h0 s s1 (by omega))
      rw [Int.natCast_succ] at e
      exact e
  obtain ⟨M2, a1, a2, a3⟩ := save 64 0 rfl m yFq_rfl (fun s s1 s2 => by rw [Int.natCast_zero] at s2; omega)
  have hw2 : yRt M2 0 w := by
    obtain ⟨h0, h1, h3, h4⟩ := hw
    have q : ∀ x, (x = 103 ∨ x = 104) → M2 x = m x := fun x hx => by
      funext j
      refine a2 x j ?_
      rintro (⟨q, -⟩ | ⟨q, -⟩) <;> omega
    refine ⟨h0, by rw [q 104 (.inr rfl)]; exact h1, h3, fun i hi => ?_⟩
    rw [q 103 (.inl rfl)]
    exact h4 i hi
  obtain ⟨M3, r1, r2, r3, r4⟩ := zk_195 (L := L) (m := M2) d hw2
  have back : ∀ n i : Nat, i + n = 64 → ∀ M : Nat → Int → Int, yFq yPc M2 M → (∀ s : Int, 0 ≤ s → s < i → M 105 s = m 105 s) → ∃ m', zmE (zmD zP (d+4)) zc_217 (44, [some (zr 98), some (zi (m 106 0)), some (zi ((yHome w).1)), some (zi i)], [], zW L M) = some (some (zi (yHome w).1), zW L m') ∧ yFq yPf m m' := by
    intro n
    induction n with
    | zero =>
      intro i hi M hF h0
      rw [zb_217_44, if_neg (by omega), zgr_98_9, zbs, zsi_106 (by decide) (by decide), zbs]
      refine ⟨_, rfl, fun x j hx => ?_⟩
      by_cases g1 : x = 106 ∧ j = 0
      · rw [g1.1, g1.2, zup_self]
      · have e1 : zup M 106 0 (m 106 0) x j = M x j := if_neg g1
        rw [e1]
        by_cases g2 : x = 105 ∧ 0 ≤ j ∧ j < 64
        · rw [g2.1]
          exact h0 j g2.2.1 (by omega)
        · rw [hF x j (by
            rintro (q | q | q)
            · exact hx (.inl q)
            · exact g2 q
            · exact g1 q)]
          exact a2 x j hx
    | succ n ih =>
      intro i hi M hF h0
      have e1 : M 105 (192 + (i : Int)) = m 105 i := by
        rw [hF 105 (192 + (i : Int)) (by
          rintro (⟨q, -⟩ | ⟨-, -, q⟩ | ⟨q, -⟩)
          · exact absurd q (by decide)
          · omega
          · exact absurd q (by decide))]
        exact a3 i (by omega) (by omega)
      rw [zb_217_44, if_pos (by omega), zgr_98_8, zbs, zbs, w32_of (z := 192 + (i : Int)) (by omega) (by omega), zai_105 (by omega) (by omega), zbs, zsi_105 (by omega) (by omega), zbs, w32_of (by omega) (by omega), e1]
      have e := ih (i + 1) (by omega) (zup M 105 i (m 105 i)) (yFq_up hF (.inr (.inl ⟨rfl, by omega, by omega⟩))) (fun s s1 s2 => by
        by_cases g : s = i
        · rw [g, zup_self]
        · rw [zup_ne2 g]
          exact h0 s s1 (by omega))
      rw [Int.natCast_succ] at e
      exact e
  have t0 : M2 106 0 = m 106 0 := a2 106 0 (by
    rintro (⟨q, -⟩ | ⟨q, -⟩) <;> exact absurd q (by decide))
  obtain ⟨m', e1, e2⟩ := back 64 0 rfl M3 r2 (fun s s1 s2 => by rw [Int.natCast_zero] at s2; omega)
  refine ⟨m', ?_, e2⟩
  rw [zen_217, zb_217_0]
  refine Eq.trans a1 ?_
  rw [zb_217_2, if_neg (by decide), zgr_98_9, zbs, zai_106 (by decide) (by decide), zbs, zcv_98, r1, zbs, zmG_v, zb_217_41, t0]
  exact e1
end ZR
