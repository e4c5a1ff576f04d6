/-! signs, tries, isLess, findShortest of the reference -/
def yNw (m : Nat → Int → Int) (A : List Int) : Prop := m 98 21 = A.length ∧ ∀ i : Nat, i < A.length → m 110 i = A.getD i 0
def yBs (m : Nat → Int → Int) (B : List Int) : Prop := m 98 19 = B.length ∧ ∀ i : Nat, i < B.length → m 109 i = B.getD i 0
def yS6 (x : Nat) (j : Int) : Prop := x = 110 ∨ x = 98 ∧ j = 21
def yS7 (x : Nat) (j : Int) : Prop := x = 110 ∨ x = 98 ∧ (j = 21 ∨ 13 ≤ j ∧ j ≤ 17)
def yS8 (x : Nat) (j : Int) : Prop := x = 109 ∨ x = 110 ∨ x = 98 ∧ 13 ≤ j ∧ j ≤ 21
/-- moves that say the same by parts p -/
def yCp (b : Int → Int) (xs : List Int) (p v : Int) : Nat := xs.countP fun u => decide (yKey p (b (u / 64) % 8 - 1) u = yKey p (b (v / 64) % 8 - 1) v)
theorem ycount1 {p : Int → Bool} {v : Int} : ∀ l : List Int, l.Pairwise (· < ·) → v ∈ l → (∀ u ∈ l, p u = true ↔ u = v) → l.countP p = 1
  | [], _, h, _ => by cases h
  | a :: l, h1, h2, h3 => by
    rw [List.pairwise_cons] at h1
    rw [List.countP_cons]
    by_cases g : a = v
    · subst g
      rw [if_pos ((h3 a (List.mem_cons_self ..)).mpr rfl)]
      have : l.countP p = 0 := List.countP_eq_zero.mpr fun u hu q => by
        have e := (h3 u (List.mem_cons_of_mem _ hu)).mp q
        have := h1.1 u hu
        omega
      omega
    · have hv : v ∈ l := by
        rcases List.mem_cons.mp h2 with q | q
        · exact absurd q.symm g
        · exact q
      rw [if_neg (fun q => g ((h3 a (List.mem_cons_self ..)).mp q)), ycount1 l h1.2 hv fun u hu => h3 u (List.mem_cons_of_mem _ hu)]
theorem yCp_15 {b : Int → Int} {xs : List Int} {v : Int} (hs : xs.Pairwise (· < ·)) (ho : yOkv b xs) (hv : v ∈ xs) : yCp b xs 15 v = 1 := by
  unfold yCp
  refine ycount1 xs hs hv fun u hu => ?_
  obtain ⟨u1, u2, u3⟩ := ho u hu
  obtain ⟨v1, v2, v3⟩ := ho v hv
  obtain ⟨b1, b2, b3, b4, b5⟩ := z_bit_15
  rw [decide_eq_true_iff]
  constructor
  · intro h
    simp only [yKey, yDg, b1, b2, b3, b4, b5, Int.reduceEq, if_true, if_false] at h
    simp (disch := omega) only [yD8] at h
    omega
  · intro h
    rw [h]
/-- the best of the twelve tries names the same form as the class's eleven -/
theorem yBest_form {b : Int → Int} {xs : List Int} {v : Int} {w0 : Nat} (hw : w0 < 12) (h1 : yCp b xs (yWp w0) v = 1) (h2 : ∀ w, w < 12 → yCp b xs (yWp w) v = 1 → yRkw w0 ≤ yRkw w) (h3 : yCp b xs 15 v = 1) : yForm (yFm b xs v 10) = yWp w0 := by
  have hr := h2 10 (by decide) h3
  have hr10 : yRkw 10 = 10 := rfl
  -- forms below the best one are not unique
  have low : ∀ n : Nat, (n : Int) ≤ yRkw w0 → n ≤ 10 → yFm b xs v n = 10 := by
    intro n
    induction n with
    | zero => intro _ _; rfl
    | succ n ih =>
      intro q1 q2
      rw [yFm_succ, ih (by omega) (by omega), if_neg (by decide), if_neg]
      intro q
      have hw' : ∃ w, w < 12 ∧ yWp w = yForm n ∧ yRkw w = n := by
        have : n = 0 ∨ n = 1 ∨ n = 2 ∨ n = 3 ∨ n = 4 ∨ n = 5 ∨ n = 6 ∨ n = 7 ∨ n = 8 ∨ n = 9 := by omega
        rcases this with e | e | e | e | e | e | e | e | e | e <;> subst e
        · exact ⟨2, by decide, rfl, rfl⟩
        · exact ⟨0, by decide, rfl, rfl⟩
        · exact ⟨3, by decide, rfl, rfl⟩
        · exact ⟨1, by decide, rfl, rfl⟩
        · exact ⟨4, by decide, rfl, rfl⟩
        · exact ⟨8, by decide, rfl, rfl⟩
        · exact ⟨5, by decide, rfl, rfl⟩
        · exact ⟨6, by decide, rfl, rfl⟩
        · exact ⟨9, by decide, rfl, rfl⟩
        · exact ⟨7, by decide, rfl, rfl⟩
      obtain ⟨w, w1, w2, w3⟩ := hw'
      have := h2 w w1 (by rw [w2]; exact q)
      omega
  have fin : ∀ n : Nat, n < 10 → yRkw w0 = n → yForm n = yWp w0 → yForm (yFm b xs v 10) = yWp w0 := fun n n1 n2 n3 => by
    have e := low n (by omega) (by omega)
    have e2 : yFm b xs v (n + 1) = n := by
      rw [yFm_succ, e, if_neg (by decide), if_pos]
      show yCp b xs (yForm n) v = 1
      rw [n3]
      exact h1
    have e3 := yFm_keep (b := b) (xs := xs) (v := v) (f := n + 1) (by rw [e2]; omega) (10 - (n + 1))
    rw [show n + 1 + (10 - (n + 1)) = 10 by omega, e2] at e3
    rw [e3, n3]
  rcases yw12 hw with e | e | e | e | e | e | e | e | e | e | e | e <;> subst e
  · exact fin 1 (by decide) rfl rfl
  · exact fin 3 (by decide) rfl rfl
  · exact fin 0 (by decide) rfl rfl
  · exact fin 2 (by decide) rfl rfl
  · exact fin 4 (by decide) rfl rfl
  · exact fin 6 (by decide) rfl rfl
  · exact fin 7 (by decide) rfl rfl
  · exact fin 9 (by decide) rfl rfl
  · exact fin 5 (by decide) rfl rfl
  · exact fin 8 (by decide) rfl rfl
  · rw [low 10 (by decide) (by decide)]
    rfl
  · exact absurd hr (by decide)
theorem ySay_len {w : Nat} (hw : w < 12) {k v : Int} : ((ySay (yWp w) k v).length : Int) = yPop (yWp w) ∧ (ySay (yWp w) k v).length ≤ 5 := by
  have s0 : ySay (yWp 0) k v = _ := ySay_2
  have s1 : ySay (yWp 1) k v = _ := ySay_18
  have s2 : ySay (yWp 2) k v = _ := ySay_1
  have s3 : ySay (yWp 3) k v = _ := ySay_17
  have s4 : ySay (yWp 4) k v = _ := ySay_3
  have s5 : ySay (yWp 5) k v = _ := ySay_19
  have s6 : ySay (yWp 6) k v = _ := ySay_11
  have s7 : ySay (yWp 7) k v = _ := ySay_27
  have s8 : ySay (yWp 8) k v = _ := ySay_7
  have s9 : ySay (yWp 9) k v = _ := ySay_23
  have s10 : ySay (yWp 10) k v = _ := ySay_15
  have s11 : ySay (yWp 11) k v = _ := ySay_31
  rcases yw12 hw with e | e | e | e | e | e | e | e | e | e | e | e <;> subst e
  · rw [s0]; exact ⟨rfl, by show 1 ≤ 5; decide⟩
  · rw [s1]; exact ⟨rfl, by show 2 ≤ 5; decide⟩
  · rw [s2]; exact ⟨rfl, by show 1 ≤ 5; decide⟩
  · rw [s3]; exact ⟨rfl, by show 2 ≤ 5; decide⟩
  · rw [s4]; exact ⟨rfl, by show 2 ≤ 5; decide⟩
  · rw [s5]; exact ⟨rfl, by show 3 ≤ 5; decide⟩
  · rw [s6]; exact ⟨rfl, by show 3 ≤ 5; decide⟩
  · rw [s7]; exact ⟨rfl, by show 4 ≤ 5; decide⟩
  · rw [s8]; exact ⟨rfl, by show 3 ≤ 5; decide⟩
  · rw [s9]; exact ⟨rfl, by show 4 ≤ 5; decide⟩
  · rw [s10]; exact ⟨rfl, by show 4 ≤ 5; decide⟩
  · rw [s11]; exact ⟨rfl, by show 5 ≤ 5; decide⟩
section ZR
variable {L : Nat} {m : Nat → Int → Int} (d : Nat)
theorem zk_255 {A : List Int} (h : yNw m A) (hl : A.length < 5) (b : Int) : ∃ m', zmD zP (d + 1) 255 [zr 98, zi b] (zW L m) = some (none, zW L m') ∧ yFq yS6 m m' ∧ yNw m' (A ++ [b]) := by
  rw [zen_255, zb_255_0, zgr_98_20, zbs, zgi_98, zbs, h.1, zsi_110 (by omega) (by omega), zbs, zgi_98, zbs, zup_ne (by decide), h.1, w32_of (by omega) (by omega), zpi_98, zbs]
  refine ⟨_, rfl, yFq_up (yFq_up yFq_rfl (.inl rfl)) (.inr ⟨rfl, rfl⟩), ?_, fun i hi => ?_⟩
  · rw [zup_self, List.length_append]
    rfl
  · rw [List.length_append] at hi
    have hi : i < A.length + 1 := hi
    rw [zup_ne (by decide)]
    by_cases g : i = A.length
    · rw [g, zup_self, yget_e rfl]
    · rw [zup_ne2 (by omega), yget_l (by omega)]
      exact h.2 i (by omega)
theorem zk_254 (l v : Int) (w : Nat) (hl : 0 ≤ l ∧ l < 4) (hv : 0 ≤ v ∧ v < 4096) (hw : w < 12) (hb : 1 ≤ zbd m l (v / 64) % 8 ∧ zbd m l (v / 64) % 8 ≤ 6) (hb2 : 0 ≤ zbd m l (v / 64) ∧ zbd m l (v / 64) ≤ 14) : ∃ m', zmD zP (d + 2) 254 [zr 98, zi l, zi v, zi w] (zW L m) = some (none, zW L m') ∧ yFq yS7 m m' ∧ m' 98 13 = yTm w (zbd m l (v / 64) % 8) ∧ m' 98 14 = yTfc w v ∧ m' 98 15 = yTfr w v ∧ m' 98 16 = yTtc w v ∧ m' 98 17 = yTtr w v ∧ yNw m' (yStr5 (yTm w (zbd m l (v / 64) % 8)) (yTfc w v) (yTfr w v) (yTtc w v) (yTtr w v)) := by
  have q2 : v / 64 / 8 = v / 512 := by omega
  have q3 : v % 64 % 8 = v % 8 := by omega
  have q4 : v % 64 / 8 = v / 8 % 8 := by omega
  have hbe : m 105 (64 * l + v / 64) = zbd m l (v / 64) := rfl
  generalize htm : yTm w (zbd m l (v / 64) % 8) = tm
  generalize hfc : yTfc w v = fc
  generalize hfr : yTfr w v = fr
  generalize htc : yTtc w v = tc
  generalize htr : yTtr w v = tr
  have rm : -1 ≤ tm ∧ tm ≤ 6 := by rw [← htm]; unfold yTm; split <;> omega
  have rfc : -1 ≤ fc ∧ fc ≤ 7 := by rw [← hfc]; unfold yTfc; split <;> omega
  have rfr : -1 ≤ fr ∧ fr ≤ 7 := by rw [← hfr]; unfold yTfr; split <;> omega
  have rtc : -1 ≤ tc ∧ tc ≤ 7 := by rw [← htc]; unfold yTtc; split <;> omega
  have rtr : -1 ≤ tr ∧ tr ≤ 7 := by rw [← htr]; unfold yTtr; split <;> omega
  have e48 : zmE (zmD zP (d+1)) zc_254 (12, [some (zr 98), some (zi l), some (zi v), some (zi w), some (zi (v / 64)), some (zi (v % 64)), none], [], zW L m) = zmE (zmD zP (d+1)) zc_254 (48, [some (zr 98), some (zi l), some (zi v), some (zi w), some (zi (v / 64)), some (zi (v % 64)), some (zi ((w : Int) / 2))], [zi tm, zr 98], zW L (zup m 98 21 0)) := by
    rw [zb_254_12, zpi_98, zbs, z_rem_of (by omega) (by omega) (by decide) (by decide), z_div_of (by omega) (by omega) (by decide), zgr_98_8, zbs, w32_of (z := 64 * l) (by omega) (by omega), w32_of (z := 64 * l + v / 64) (by omega) (by omega), zai_105 (by omega) (by omega), zbs, zup_ne (by decide), hbe, z_rem_of hb2.1 (by omega) (by decide) (by decide), ← htm]
    unfold yTm
    split <;> rfl
  have e73 : ∀ M : Nat → Int → Int, zmE (zmD zP (d+1)) zc_254 (48, [some (zr 98), some (zi l), some (zi v), some (zi w), some (zi (v / 64)), some (zi (v % 64)), some (zi ((w : Int) / 2))], [zi tm, zr 98], zW L M) = zmE (zmD zP (d+1)) zc_254 (73, [some (zr 98), some (zi l), some (zi v), some (zi w), some (zi (v / 64)), some (zi (v % 64)), some (zi ((w : Int) / 2))], [zi fc, zr 98], zW L (zup M 98 13 tm)) := fun M => by
    rw [zb_254_48, zpi_98, zbs, zb_254_64, z_rem_of (by omega) (by omega) (by decide) (by decide), ← hfc]
    unfold yTfc
    by_cases g : (w : Int) / 2 = 3
    · rw [if_pos g, if_pos (.inl g)]
    · rw [if_neg g]
      by_cases g2 : (w : Int) / 2 = 5
      · rw [if_pos g2, if_pos (.inr g2)]
      · rw [if_neg g2, if_neg (by omega)]
  have e92 : ∀ M : Nat → Int → Int, zmE (zmD zP (d+1)) zc_254 (73, [some (zr 98), some (zi l), some (zi v), some (zi w), some (zi (v / 64)), some (zi (v % 64)), some (zi ((w : Int) / 2))], [zi fc, zr 98], zW L M) = zmE (zmD zP (d+1)) zc_254 (92, [some (zr 98), some (zi l), some (zi v), some (zi w), some (zi (v / 64)), some (zi (v % 64)), some (zi ((w : Int) / 2))], [zi fr, zr 98], zW L (zup M 98 14 fc)) := fun M => by
    rw [zb_254_73, zpi_98, zbs, z_div_of (by omega) (by omega) (by decide), q2, ← hfr]
    unfold yTfr
    split <;> rfl
  have e111 : ∀ M : Nat → Int → Int, zmE (zmD zP (d+1)) zc_254 (92, [some (zr 98), some (zi l), some (zi v), some (zi w), some (zi (v / 64)), some (zi (v % 64)), some (zi ((w : Int) / 2))], [zi fr, zr 98], zW L M) = zmE (zmD zP (d+1)) zc_254 (111, [some (zr 98), some (zi l), some (zi v), some (zi w), some (zi (v / 64)), some (zi (v % 64)), some (zi ((w : Int) / 2))], [zi tc, zr 98], zW L (zup M 98 15 fr)) := fun M => by
    rw [zb_254_92, zpi_98, zbs, z_rem_of (by omega) (by omega) (by decide) (by decide), q3, ← htc]
    unfold yTtc
    split <;> rfl
  have e129 : ∀ M : Nat → Int → Int, zmE (zmD zP (d+1)) zc_254 (111, [some (zr 98), some (zi l), some (zi v), some (zi w), some (zi (v / 64)), some (zi (v % 64)), some (zi ((w : Int) / 2))], [zi tc, zr 98], zW L M) = zmE (zmD zP (d+1)) zc_254 (129, [some (zr 98), some (zi l), some (zi v), some (zi w), some (zi (v / 64)), some (zi (v % 64)), some (zi ((w : Int) / 2))], [zi tr, zr 98], zW L (zup M 98 16 tc)) := fun M => by
    rw [zb_254_111, zpi_98, zbs, z_div_of (by omega) (by omega) (by decide), q4, ← htr]
    unfold yTtr
    split <;> rfl
  generalize hM0 : zup (zup (zup (zup (zup (zup m 98 21 0) 98 13 tm) 98 14 fc) 98 15 fr) 98 16 tc) 98 17 tr = M0
  have f0 : yFq yS7 m M0 := by
    rw [← hM0]
    exact yFq_up (yFq_up (yFq_up (yFq_up (yFq_up (yFq_up yFq_rfl (.inr ⟨rfl, by omega⟩)) (.inr ⟨rfl, by omega⟩)) (.inr ⟨rfl, by omega⟩)) (.inr ⟨rfl, by omega⟩)) (.inr ⟨rfl, by omega⟩)) (.inr ⟨rfl, by omega⟩)
  have t13 : M0 98 13 = tm := by rw [← hM0]; rfl
  have t14 : M0 98 14 = fc := by rw [← hM0]; rfl
  have t15 : M0 98 15 = fr := by rw [← hM0]; rfl
  have t16 : M0 98 16 = tc := by rw [← hM0]; rfl
  have t17 : M0 98 17 = tr := by rw [← hM0]; rfl
  have n0 : yNw M0 [] := by
    rw [← hM0]
    exact ⟨rfl, fun i hi => absurd hi (Nat.not_lt_zero i)⟩
  have keep : ∀ M : Nat → Int → Int, yFq yS6 M0 M → M 98 13 = tm ∧ M 98 14 = fc ∧ M 98 15 = fr ∧ M 98 16 = tc ∧ M 98 17 = tr := fun M hM => by
    have q : ∀ j : Int, j ≠ 21 → M 98 j = M0 98 j := fun j hj => hM 98 j (fun q => by
      rcases q with q | ⟨-, q⟩
      · exact absurd q (by decide)
      · exact hj q)
    rw [q 13 (by decide), q 14 (by decide), q 15 (by decide), q 16 (by decide), q 17 (by decide)]
    exact ⟨t13, t14, t15, t16, t17⟩
  have step : ∀ (pa pb : Nat) (x y : Int) (M : Nat → Int → Int) (A : List Int), yFq yS6 M0 M → yNw M A → A.length < 5 → (x = -1 → zmE (zmD zP (d+1)) zc_254 (pa, [some (zr 98), some (zi l), some (zi v), some (zi w), some (zi (v / 64)), some (zi (v % 64)), some (zi ((w : Int) / 2))], [], zW L M) = zmE (zmD zP (d+1)) zc_254 (pb, [some (zr 98), some (zi l), some (zi v), some (zi w), some (zi (v / 64)), some (zi (v % 64)), some (zi ((w : Int) / 2))], [], zW L M)) → (x ≠ -1 → zmE (zmD zP (d+1)) zc_254 (pa, [some (zr 98), some (zi l), some (zi v), some (zi w), some (zi (v / 64)), some (zi (v % 64)), some (zi ((w : Int) / 2))], [], zW L M) = (zmD zP (d + 1) 255 [zr 98, zi y] (zW L M)).bind (fun r => zmG (zmD zP (d + 1)) zc_254 (zafter pb [some (zr 98), some (zi l), some (zi v), some (zi w), some (zi (v / 64)), some (zi (v % 64)), some (zi ((w : Int) / 2))] [] false r))) → ∃ M', zmE (zmD zP (d+1)) zc_254 (pa, [some (zr 98), some (zi l), some (zi v), some (zi w), some (zi (v / 64)), some (zi (v % 64)), some (zi ((w : Int) / 2))], [], zW L M) = zmE (zmD zP (d+1)) zc_254 (pb, [some (zr 98), some (zi l), some (zi v), some (zi w), some (zi (v / 64)), some (zi (v % 64)), some (zi ((w : Int) / 2))], [], zW L M') ∧ yFq yS6 M0 M' ∧ yNw M' (A ++ if x = -1 then [] else [y]) := fun pa pb x y M A hM hA hAl h1 h2 => by
    by_cases g : x = -1
    · rw [if_pos g, List.append_nil]
      exact ⟨M, h1 g, hM, hA⟩
    · obtain ⟨M', r1, r2, r3⟩ := zk_255 (L := L) d hA hAl y
      rw [if_neg g]
      exact ⟨M', by rw [h2 g, r1, zbs, zmG_n], yFq_tr hM r2, r3⟩
  have len1 : ∀ (A : List Int) (x y : Int), (A ++ if x = -1 then [] else [y]).length ≤ A.length + 1 := fun A x y => by
    rw [List.length_append]
    split
    · exact Nat.le_succ _
    · exact Nat.le_refl _
  -- the man
  have s129 : ∃ M', zmE (zmD zP (d+1)) zc_254 (129, [some (zr 98), some (zi l), some (zi v), some (zi w), some (zi (v / 64)), some (zi (v % 64)), some (zi ((w : Int) / 2))], [zi tr, zr 98], zW L (zup (zup (zup (zup (zup m 98 21 0) 98 13 tm) 98 14 fc) 98 15 fr) 98 16 tc)) = zmE (zmD zP (d+1)) zc_254 (151, [some (zr 98), some (zi l), some (zi v), some (zi w), some (zi (v / 64)), some (zi (v % 64)), some (zi ((w : Int) / 2))], [], zW L M') ∧ yFq yS6 M0 M' ∧ yNw M' ([] ++ if tm = -1 then [] else [zlet tm]) := by
    rw [zb_254_129, zpi_98, zbs, hM0, zgi_98, zbs, t13]
    by_cases g : tm = -1
    · rw [if_pos g, if_pos g]
      exact ⟨M0, rfl, yFq_rfl, n0⟩
    · obtain ⟨M', r1, r2, r3⟩ := zk_255 (L := L) d n0 (by decide) (zlet tm)
      rw [if_neg g, if_neg g, zbs, zk_228, zbs, zmG_v, zb_254_148, zcv_98, r1, zbs, zmG_n]
      exact ⟨M', rfl, r2, r3⟩
  obtain ⟨M1, c1, c2, c3⟩ := s129
  have l1 := len1 [] tm (zlet tm)
  obtain ⟨M2, c4, c5, c6⟩ := step 151 170 fc (97 + fc) M1 _ c2 c3 (by have := l1; simp only [List.length_nil] at this; omega) (fun g => by
    rw [zb_254_151, zgi_98, zbs, (keep M1 c2).2.1, if_pos g]) (fun g => by
    rw [zb_254_151, zgi_98, zbs, (keep M1 c2).2.1, if_neg g, zbs, w32_of (z := 97 + fc) (by omega) (by omega), zcv_98])
  have l2 := len1 ([] ++ if tm = -1 then [] else [zlet tm]) fc (97 + fc)
  obtain ⟨M3, c7, c8, c9⟩ := step 170 189 fr (49 + fr) M2 _ c5 c6 (by simp only [List.length_nil] at l1; omega) (fun g => by
    rw [zb_254_170, zgi_98, zbs, (keep M2 c5).2.2.1, if_pos g]) (fun g => by
    rw [zb_254_170, zgi_98, zbs, (keep M2 c5).2.2.1, if_neg g, zbs, w32_of (z := 49 + fr) (by omega) (by omega), zcv_98])
  have l3 := len1 (([] ++ if tm = -1 then [] else [zlet tm]) ++ if fc = -1 then [] else [97 + fc]) fr (49 + fr)
  obtain ⟨M4, c10, c11, c12⟩ := step 189 208 tc (97 + tc) M3 _ c8 c9 (by simp only [List.length_nil] at l1; omega) (fun g => by
    rw [zb_254_189, zgi_98, zbs, (keep M3 c8).2.2.2.1, if_pos g]) (fun g => by
    rw [zb_254_189, zgi_98, zbs, (keep M3 c8).2.2.2.1, if_neg g, zbs, w32_of (z := 97 + tc) (by omega) (by omega), zcv_98])
  have l4 := len1 ((([] ++ if tm = -1 then [] else [zlet tm]) ++ if fc = -1 then [] else [97 + fc]) ++ if fr = -1 then [] else [49 + fr]) tc (97 + tc)
  obtain ⟨M5, c13, c14, c15⟩ := step 208 227 tr (49 + tr) M4 _ c11 c12 (by simp only [List.length_nil] at l1; omega) (fun g => by
    rw [zb_254_208, zgi_98, zbs, (keep M4 c11).2.2.2.2, if_pos g]) (fun g => by
    rw [zb_254_208, zgi_98, zbs, (keep M4 c11).2.2.2.2, if_neg g, zbs, w32_of (z := 49 + tr) (by omega) (by omega), zcv_98])
  refine ⟨M5, ?_, yFq_tr f0 (yFq_wd c14 fun x j q => ?_), (keep M5 c14).1, (keep M5 c14).2.1, (keep M5 c14).2.2.1, (keep M5 c14).2.2.2.1, (keep M5 c14).2.2.2.2, ?_⟩
  · rw [zen_254, zb_254_0, z_div_of hv.1 (by omega) (by decide), zb_254_6, z_rem_of hv.1 (by omega) (by decide) (by decide), e48, e73, e92, e111, e129, c1, c4, c7, c10, c13, zb_254_227]
  · rcases q with q | q
    · exact .inl q
    · exact .inr ⟨q.1, .inl q.2⟩
  · unfold yStr5
    rw [List.nil_append, List.append_assoc, List.append_assoc, List.append_assoc] at c15
    exact c15
theorem zk_256n {A : List Int} (h : yNw m A) (hl : A.length ≤ 5) (h6 : m 98 19 = 6) : zmD zP (d + 1) 256 [zr 98] (zW L m) = some (some (zi 1), zW L m) := by
  rw [zen_256, zb_256_0, zgi_98, zbs, zgi_98, zbs, h.1, h6, if_neg (by omega), zbs, zbs, if_pos (by omega)]
theorem zk_256 {A B : List Int} (h : yNw m A) (hB : yBs m B) (hl : A.length ≤ 5) (hl2 : B.length ≤ 5) : zmD zP (d + 1) 256 [zr 98] (zW L m) = some (some (zi (yT (yLess A B))), zW L m) := by
  unfold yLess
  rw [zen_256, zb_256_0, zgi_98, zbs, zgi_98, zbs, h.1, hB.1]
  by_cases g : (A.length : Int) = B.length
  · rw [if_pos g]
    have e : yT (A.length < B.length ∨ A.length = B.length ∧ yLex A B) = yT (yLex A B) := yT_c ⟨fun q => q.elim (fun q => by omega) fun q => q.2, fun q => .inr ⟨by omega, q⟩⟩
    rw [e]
    suffices go : ∀ k i : Nat, i + k = A.length → zmE (zmD zP d) zc_256 (30, [some (zr 98), some (zi i)], [], zW L m) = some (some (zi (yT (yLex (A.drop i) (B.drop i)))), zW L m) from go A.length 0 (by omega)
    intro k
    induction k with
    | zero =>
      intro i hi
      rw [zb_256_30, zgi_98, zbs, h.1, if_neg (by omega), List.drop_eq_nil_of_le (by omega), yT_neg]
      intro q
      exact q
    | succ k ih =>
      intro i hi
      rw [zb_256_30, zgi_98, zbs, h.1, if_pos (by omega), zgr_98_20, zbs, zai_110 (by omega) (by omega), zbs, zgr_98_18, zbs, zai_109 (by omega) (by omega), zbs, h.2 i (by omega), hB.2 i (by omega), ydrop (w := A) (i := i) (by omega), ydrop (w := B) (i := i) (by omega)]
      have ex : yLex (A.getD i 0 :: A.drop (i + 1)) (B.getD i 0 :: B.drop (i + 1)) ↔ A.getD i 0 < B.getD i 0 ∨ A.getD i 0 = B.getD i 0 ∧ yLex (A.drop (i + 1)) (B.drop (i + 1)) := Iff.rfl
      rw [yT_c ex]
      by_cases g2 : A.getD i 0 = B.getD i 0
      · rw [if_pos g2, w32_of (by omega) (by omega)]
        have e2 := ih (i + 1) (by omega)
        rw [Int.natCast_succ] at e2
        rw [e2]
        exact congrArg (fun z => some (some (zi z), zW L m)) (yT_c ⟨fun q => .inr ⟨g2, q⟩, fun q => q.elim (fun q => by omega) fun q => q.2⟩)
      · rw [if_neg g2, zbs, zai_110 (by omega) (by omega), zbs, zbs, zai_109 (by omega) (by omega), zbs, h.2 i (by omega), hB.2 i (by omega)]
        by_cases g3 : A.getD i 0 < B.getD i 0
        · rw [if_pos g3, yT_pos (.inl g3)]
        · rw [if_neg g3, yT_neg (fun q => q.elim g3 fun q => g2 q.1)]
  · rw [if_neg g, zbs, zbs]
    by_cases g2 : (A.length : Int) < B.length
    · rw [if_pos g2, yT_pos (.inl (by omega))]
    · rw [if_neg g2, yT_neg (by omega)]
end ZR
