/-! names of moves: the class's Namer -/
theorem z_bit_1 : z_and 1 16 = 0 ∧ z_and 1 8 = 0 ∧ z_and 1 4 = 0 ∧ z_and 1 2 = 0 ∧ z_and 1 1 = 1 := by decide
theorem z_bit_2 : z_and 2 16 = 0 ∧ z_and 2 8 = 0 ∧ z_and 2 4 = 0 ∧ z_and 2 2 = 2 ∧ z_and 2 1 = 0 := by decide
theorem z_bit_3 : z_and 3 16 = 0 ∧ z_and 3 8 = 0 ∧ z_and 3 4 = 0 ∧ z_and 3 2 = 2 ∧ z_and 3 1 = 1 := by decide
theorem z_bit_7 : z_and 7 16 = 0 ∧ z_and 7 8 = 0 ∧ z_and 7 4 = 4 ∧ z_and 7 2 = 2 ∧ z_and 7 1 = 1 := by decide
theorem z_bit_11 : z_and 11 16 = 0 ∧ z_and 11 8 = 8 ∧ z_and 11 4 = 0 ∧ z_and 11 2 = 2 ∧ z_and 11 1 = 1 := by decide
theorem z_bit_15 : z_and 15 16 = 0 ∧ z_and 15 8 = 8 ∧ z_and 15 4 = 4 ∧ z_and 15 2 = 2 ∧ z_and 15 1 = 1 := by decide
theorem z_bit_17 : z_and 17 16 = 16 ∧ z_and 17 8 = 0 ∧ z_and 17 4 = 0 ∧ z_and 17 2 = 0 ∧ z_and 17 1 = 1 := by decide
theorem z_bit_18 : z_and 18 16 = 16 ∧ z_and 18 8 = 0 ∧ z_and 18 4 = 0 ∧ z_and 18 2 = 2 ∧ z_and 18 1 = 0 := by decide
theorem z_bit_19 : z_and 19 16 = 16 ∧ z_and 19 8 = 0 ∧ z_and 19 4 = 0 ∧ z_and 19 2 = 2 ∧ z_and 19 1 = 1 := by decide
theorem z_bit_23 : z_and 23 16 = 16 ∧ z_and 23 8 = 0 ∧ z_and 23 4 = 4 ∧ z_and 23 2 = 2 ∧ z_and 23 1 = 1 := by decide
theorem z_bit_27 : z_and 27 16 = 16 ∧ z_and 27 8 = 8 ∧ z_and 27 4 = 0 ∧ z_and 27 2 = 2 ∧ z_and 27 1 = 1 := by decide
theorem z_bit_31 : z_and 31 16 = 16 ∧ z_and 31 8 = 8 ∧ z_and 31 4 = 4 ∧ z_and 31 2 = 2 ∧ z_and 31 1 = 1 := by decide
theorem yKey_lt {f k v : Int} (hf : 0 ≤ f ∧ f < 10) (hk : 0 ≤ k ∧ k ≤ 5) (hv : 0 ≤ v ∧ v < 4096) : 0 ≤ yKey (yForm f) k v ∧ yKey (yForm f) k v < 3072 := by
  have e : f = 0 ∨ f = 1 ∨ f = 2 ∨ f = 3 ∨ f = 4 ∨ f = 5 ∨ f = 6 ∨ f = 7 ∨ f = 8 ∨ f = 9 := by omega
  unfold yKey yDg
  rcases e with e | e | e | e | e | e | e | e | e | e <;> subst e
  · rw [show yForm 0 = 1 from rfl]
    obtain ⟨b1, b2, b3, b4, b5⟩ := z_bit_1
    simp only [b1, b2, b3, b4, b5, Int.reduceEq, if_true, if_false]
    omega
  · rw [show yForm 1 = 2 from rfl]
    obtain ⟨b1, b2, b3, b4, b5⟩ := z_bit_2
    simp only [b1, b2, b3, b4, b5, Int.reduceEq, if_true, if_false]
    omega
  · rw [show yForm 2 = 17 from rfl]
    obtain ⟨b1, b2, b3, b4, b5⟩ := z_bit_17
    simp only [b1, b2, b3, b4, b5, Int.reduceEq, if_true, if_false]
    omega
  · rw [show yForm 3 = 18 from rfl]
    obtain ⟨b1, b2, b3, b4, b5⟩ := z_bit_18
    simp only [b1, b2, b3, b4, b5, Int.reduceEq, if_true, if_false]
    omega
  · rw [show yForm 4 = 3 from rfl]
    obtain ⟨b1, b2, b3, b4, b5⟩ := z_bit_3
    simp only [b1, b2, b3, b4, b5, Int.reduceEq, if_true, if_false]
    omega
  · rw [show yForm 5 = 7 from rfl]
    obtain ⟨b1, b2, b3, b4, b5⟩ := z_bit_7
    simp only [b1, b2, b3, b4, b5, Int.reduceEq, if_true, if_false]
    omega
  · rw [show yForm 6 = 19 from rfl]
    obtain ⟨b1, b2, b3, b4, b5⟩ := z_bit_19
    simp only [b1, b2, b3, b4, b5, Int.reduceEq, if_true, if_false]
    omega
  · rw [show yForm 7 = 11 from rfl]
    obtain ⟨b1, b2, b3, b4, b5⟩ := z_bit_11
    simp only [b1, b2, b3, b4, b5, Int.reduceEq, if_true, if_false]
    omega
  · rw [show yForm 8 = 23 from rfl]
    obtain ⟨b1, b2, b3, b4, b5⟩ := z_bit_23
    simp only [b1, b2, b3, b4, b5, Int.reduceEq, if_true, if_false]
    omega
  · rw [show yForm 9 = 27 from rfl]
    obtain ⟨b1, b2, b3, b4, b5⟩ := z_bit_27
    simp only [b1, b2, b3, b4, b5, Int.reduceEq, if_true, if_false]
    omega
/-- where a Namer lies -/
def yNm (L n : Nat) : Prop := zSH L n = (6, 0) ∧ zMR n 0 = some (n + 1) ∧ zSH L (n + 1) = (100, 3072) ∧ n + 1 < 98
/-- what is said of a move by form f, as a number; kinds by the board -/
def yKf (b : Int → Int) (f v : Int) : Int := yKey (yForm f) (b (v / 64) % 8 - 1) v
def yTl (b : Int → Int) (f : Int) (xs : List Int) (s : Int) : Int := ((xs.countP fun u => decide (yKf b f u = s) : Nat) : Int)
def yCn (b : Int → Int) (xs : List Int) (f v : Int) : Nat := xs.countP fun u => decide (yKf b f u = yKf b f v)
/-- the first form below n that names a move alone; 10: none -/
def yFm (b : Int → Int) (xs : List Int) (v : Int) : Nat → Int
  | 0 => 10
  | f + 1 => if yFm b xs v f ≠ 10 then yFm b xs v f else if yCn b xs f v = 1 then f else 10
/-- moves and men as they should be -/
def yOkv (b : Int → Int) (xs : List Int) : Prop := ∀ v ∈ xs, (0 ≤ v ∧ v < 4096) ∧ 1 ≤ b (v / 64) % 8 ∧ b (v / 64) % 8 ≤ 6
/-- how many of the first n have a name -/
def yNd (m : Nat → Int → Int) (q : Nat) : Nat → Nat
  | 0 => 0
  | n + 1 => yNd m q n + if m (q + 3) n ≠ 10 then 1 else 0
theorem yNd_le {m : Nat → Int → Int} {q : Nat} : ∀ n, yNd m q n ≤ n
  | 0 => Nat.le_refl 0
  | n + 1 => by
    have := yNd_le (m := m) (q := q) n
    unfold yNd
    split <;> omega
theorem yNd_all {m : Nat → Int → Int} {q : Nat} : ∀ n, n ≤ yNd m q n → ∀ i : Nat, i < n → m (q + 3) i ≠ 10
  | 0, _, i, hi => absurd hi (Nat.not_lt_zero i)
  | n + 1, h, i, hi => by
    have h1 := yNd_le (m := m) (q := q) n
    unfold yNd at h
    split at h
    · by_cases g : i = n
      · rw [g]
        assumption
      · exact yNd_all n (by omega) i (by omega)
    · omega
theorem yNd_some {m : Nat → Int → Int} {q : Nat} : ∀ n, 0 < yNd m q n → ∃ i : Nat, i < n ∧ m (q + 3) i ≠ 10
  | 0, h => absurd h (Nat.not_lt_zero 0)
  | n + 1, h => by
    unfold yNd at h
    split at h
    · exact ⟨n, Nat.lt_succ_self n, by assumption⟩
    · obtain ⟨i, h1, h2⟩ := yNd_some n (by omega)
      exact ⟨i, by omega, h2⟩
theorem yNd_c {m m' : Nat → Int → Int} {q : Nat} : ∀ n, (∀ i : Nat, i < n → m' (q + 3) i = m (q + 3) i) → yNd m' q n = yNd m q n
  | 0, _ => rfl
  | n + 1, h => by
    unfold yNd
    rw [h n (Nat.lt_succ_self n), yNd_c n fun i hi => h i (by omega)]
theorem yOkv_get {b : Int → Int} {xs : List Int} (h : yOkv b xs) {i : Nat} (hi : i < xs.length) : (0 ≤ xs.getD i 0 ∧ xs.getD i 0 < 4096) ∧ 1 ≤ b (xs.getD i 0 / 64) % 8 ∧ b (xs.getD i 0 / 64) % 8 ≤ 6 := by
  refine h _ ?_
  rw [List.getD_eq_getElem?_getD, List.getElem?_eq_getElem hi]
  exact List.getElem_mem hi
theorem ycount_take {xs : List Int} {p : Int → Bool} {i : Nat} (hi : i < xs.length) : (xs.take (i + 1)).countP p = (xs.take i).countP p + if p (xs.getD i 0) = true then 1 else 0 := by
  rw [List.take_succ, List.getD_eq_getElem?_getD, List.getElem?_eq_getElem hi, List.countP_append]
  show _ + List.countP p [xs[i]] = _
  rw [List.countP_singleton]
  rfl
section ZR
variable {L : Nat} {m : Nat → Int → Int} (D : Nat) {q R n : Nat} {b : Int → Int} {xs : List Int}
theorem ynr (h : yNm L n) : zGR (zW L m) n 6 0 = some (n + 1) := (zw_gr (congrArg Prod.fst h.1)).trans h.2.1
theorem yna (h : yNm L n) {k : Int} (h1 : 0 ≤ k) (h2 : k < 3072) : zAI (zW L m) 100 (n + 1) k = some (m (n + 1) k) := zw_ai (congrArg Prod.fst h.2.2.1) h1 (by rw [h.2.2.1]; exact h2)
theorem yns (h : yNm L n) {k z : Int} (h1 : 0 ≤ k) (h2 : k < 3072) : zSI (zW L m) 100 (n + 1) k z = some (zW L (zup m (n + 1) k z)) := zw_si (congrArg Prod.fst h.2.2.1) h1 (by rw [h.2.2.1]; exact h2) (by have := h.2.2.2; omega)
theorem ynl (h : yNm L n) : zLen (zW L m) (n + 1) = some 3072 := (zw_len (by rw [h.2.2.1]; decide) (by rw [h.2.2.1]; decide)).trans (by rw [h.2.2.1]; rfl)
theorem ync (h : yNm L n) {K : zmK} {y : Nat} {A : List zmV} : zcv K y 6 n A (zW L m) = K y A (zW L m) := zw_cv (congrArg Prod.fst h.1)
theorem zk_95 (hn : yNm L n) (hq : yLs L q R) (hT : yTab m) (hm : yMl m q b xs) (hl : xs.length ≤ R) (ho : yOkv b xs) (f : Int) (hf : 0 ≤ f ∧ f < 10) (i : Nat) (hi : i < xs.length) : zmD zP (D + 2) 95 [zr n, zi f, zr q, zi i] (zW L m) = some (some (zi (yKf b f (xs.getD i 0))), zW L m) := by
  obtain ⟨o1, o2, o3⟩ := yOkv_get ho hi
  obtain ⟨e1, e2⟩ := hm.2 i hi
  have hl' : m q 3 ≤ R := by rw [hm.1]; omega
  have hin : 0 ≤ (i : Int) ∧ (i : Int) < m q 3 := by rw [hm.1]; omega
  have hb := yKey_lt hf (k := b (xs.getD i 0 / 64) % 8 - 1) ⟨by omega, by omega⟩ o1
  rw [zen_95, zb_95_0, zk_92 D hT, zbs, zmG_v, zb_95_4, ylc hq, zk_96 D hq hl', if_pos hin, zbs, zmG_v, zb_95_9, ylc hq, zk_97 D hq hl', if_pos hin, zbs, zmG_v, zb_95_14, e1, e2, zk_86 D _ _ _ ⟨by omega, by omega⟩ o1, zbs, zmG_v, zb_95_17, if_neg (by omega), ynr hn, zbs, ynl hn, zbs, if_pos hb.2]
  rfl
theorem zk_94 (hn : yNm L n) (hq : yLs L q R) (hT : yTab m) (hm : yMl m q b xs) (hl : xs.length ≤ R) (ho : yOkv b xs) (dn : n + 1 < q ∨ q + 3 < n) (hz : ∀ s : Int, 0 ≤ s → s < 3072 → m (n + 1) s = 0) (f : Int) (hf : 0 ≤ f ∧ f < 10) : ∃ m', zmD zP (D + 3) 94 [zr n, zi f, zr q] (zW L m) = some (some (zi ((yNd m' q xs.length : Int) - yNd m q xs.length)), zW L m') ∧ yFr (q + 3) (q + 3) m m' ∧ ∀ i : Nat, i < xs.length → m' (q + 3) i = if m (q + 3) i = 10 ∧ yCn b xs f (xs.getD i 0) = 1 then f else m (q + 3) i := by
  have hq3 := hq.2.2.1
  have hR := hq.2.2.2
  have hn3 := hn.2.2.2
  -- facts of a world in which only the tally and the forms differ
  have wf : ∀ M : Nat → Int → Int, (∀ x, x ≠ n + 1 → x ≠ q + 3 → M x = m x) → yTab M ∧ yMl M q b xs := fun M hM => by
    have q1 : ∀ j, M (zXB + j) = m (zXB + j) := fun j => hM _ (by unfold zXB; omega) (by unfold zXB; omega)
    refine ⟨?_, ?_⟩
    · unfold yTab
      rw [q1, q1, q1, q1, q1]
      exact hT
    · unfold yMl
      rw [hM q (by omega) (by omega), hM (q + 1) (by omega) (by omega), hM (q + 2) (by omega) (by omega)]
      exact hm
  have key : ∀ i : Nat, i < xs.length → 0 ≤ yKf b f (xs.getD i 0) ∧ yKf b f (xs.getD i 0) < 3072 := fun i hi => by
    obtain ⟨o1, o2, o3⟩ := yOkv_get ho hi
    exact yKey_lt hf ⟨by omega, by omega⟩ o1
  have l1 : ∀ k i : Nat, i + k = xs.length → ∀ o4, ∀ M : Nat → Int → Int, (∀ x, x ≠ n + 1 → M x = m x) → (∀ s : Int, ¬ (0 ≤ s ∧ s < 3072) → M (n + 1) s = m (n + 1) s) → (∀ s : Int, 0 ≤ s → s < 3072 → M (n + 1) s = yTl b f (xs.take i) s) → ∃ M', zmE (zmD zP (D+2)) zc_94 (2, [some (zr n), some (zi f), some (zr q), some (zi i), o4], [], zW L M) = zmE (zmD zP (D+2)) zc_94 (37, [some (zr n), some (zi f), some (zr q), some (zi 0), some (zi 0)], [], zW L M') ∧ (∀ x, x ≠ n + 1 → M' x = m x) ∧ (∀ s : Int, ¬ (0 ≤ s ∧ s < 3072) → M' (n + 1) s = m (n + 1) s) ∧ (∀ s : Int, 0 ≤ s → s < 3072 → M' (n + 1) s = yTl b f xs s) := by
    intro k
    induction k with
    | zero =>
      intro i hi o4 M h1 h2 h3
      obtain ⟨w1, w2⟩ := wf M fun x q1 _ => h1 x q1
      rw [zb_94_2, ylc hq, zk_90 (D + 1) hq, zbs, zmG_v, zb_94_7, w2.1, if_neg (by omega)]
      rw [show i = xs.length by omega, List.take_length] at h3
      exact ⟨M, rfl, h1, h2, h3⟩
    | succ k ih =>
      intro i hi o4 M h1 h2 h3
      obtain ⟨w1, w2⟩ := wf M fun x q1 _ => h1 x q1
      have ki := key i (by omega)
      have hc := List.countP_le_length (p := fun u => decide (yKf b f u = yKf b f (xs.getD i 0))) (l := xs.take i)
      rw [List.length_take] at hc
      have hc2 : 0 ≤ yTl b f (xs.take i) (yKf b f (xs.getD i 0)) ∧ yTl b f (xs.take i) (yKf b f (xs.getD i 0)) ≤ 640 := by
        unfold yTl
        omega
      rw [zb_94_2, ylc hq, zk_90 (D + 1) hq, zbs, zmG_v, zb_94_7, w2.1, if_pos (by omega), ynr hn, zbs, ync hn, zk_95 D hn hq w1 w2 hl ho f hf i (by omega), zbs, zmG_v, zb_94_21, yna hn ki.1 ki.2, zbs, yns hn ki.1 ki.2, zbs, h3 _ ki.1 ki.2, w32_of (by omega) (by omega), w32_of (by omega) (by omega)]
      have e := ih (i + 1) (by omega) o4 (zup M (n + 1) (yKf b f (xs.getD i 0)) (yTl b f (xs.take i) (yKf b f (xs.getD i 0)) + 1)) (fun x hx => by
        funext j
        rw [zup_ne hx, h1 x hx]) (fun s hs => by
        rw [zup_ne2 (fun q => hs (by rw [q]; exact ki)), h2 s hs]) (fun s s1 s2 => by
        have ct : yTl b f (xs.take (i + 1)) s = yTl b f (xs.take i) s + ((if decide (yKf b f (xs.getD i 0) = s) = true then 1 else 0 : Nat) : Int) := by
          unfold yTl
          rw [ycount_take (by omega), Int.natCast_add]
        rw [ct]
        by_cases g : s = yKf b f (xs.getD i 0)
        · subst g
          rw [zup_self, if_pos (by rw [decide_eq_true_iff])]
          rfl
        · rw [zup_ne2 g, h3 s s1 s2, if_neg (by rw [decide_eq_true_iff]; exact fun q => g q.symm)]
          exact (Int.add_zero _).symm)
      rw [Int.natCast_succ] at e
      exact e
  have l3 : ∀ c : Int, ∀ k i : Nat, i + k = xs.length → ∀ M : Nat → Int → Int, (∀ x, x ≠ n + 1 → x ≠ q + 3 → M x = m x) → (∀ s : Int, ¬ (0 ≤ s ∧ s < 3072) → M (n + 1) s = m (n + 1) s) → (∀ s : Int, 0 ≤ s → s < 3072 → M (n + 1) s = 0 ∨ ∃ j : Nat, i ≤ j ∧ j < xs.length ∧ s = yKf b f (xs.getD j 0)) → ∃ M', zmE (zmD zP (D+2)) zc_94 (93, [some (zr n), some (zi f), some (zr q), some (zi c), some (zi i)], [], zW L M) = some (some (zi c), zW L M') ∧ yFr (q + 3) (q + 3) m M' ∧ M' (q + 3) = M (q + 3) := by
    intro c k
    induction k with
    | zero =>
      intro i hi M h1 h2 h3
      obtain ⟨w1, w2⟩ := wf M h1
      rw [zb_94_93, ylc hq, zk_90 (D + 1) hq, zbs, zmG_v, zb_94_99, w2.1, if_neg (by omega)]
      refine ⟨M, rfl, fun x hx => ?_, rfl⟩
      by_cases g : x = n + 1
      · subst g
        funext s
        by_cases gs : 0 ≤ s ∧ s < 3072
        · rw [hz s gs.1 gs.2]
          rcases h3 s gs.1 gs.2 with e | ⟨j, j1, j2, _⟩
          · exact e
          · omega
        · exact h2 s gs
      · exact h1 x g (by omega)
    | succ k ih =>
      intro i hi M h1 h2 h3
      obtain ⟨w1, w2⟩ := wf M h1
      have ki := key i (by omega)
      rw [zb_94_93, ylc hq, zk_90 (D + 1) hq, zbs, zmG_v, zb_94_99, w2.1, if_pos (by omega), ynr hn, zbs, ync hn, zk_95 D hn hq w1 w2 hl ho f hf i (by omega), zbs, zmG_v, zb_94_114, yns hn ki.1 ki.2, zbs, w32_of (by omega) (by omega)]
      obtain ⟨M', e1, e2, e3⟩ := ih (i + 1) (by omega) (zup M (n + 1) (yKf b f (xs.getD i 0)) 0) (fun x x1 x2 => by
        funext j
        rw [zup_ne x1, h1 x x1 x2]) (fun s hs => by
        rw [zup_ne2 (fun q => hs (by rw [q]; exact ki)), h2 s hs]) (fun s s1 s2 => by
        by_cases g : s = yKf b f (xs.getD i 0)
        · subst g
          exact .inl zup_self
        · rw [zup_ne2 g]
          rcases h3 s s1 s2 with e | ⟨j, j1, j2, j3⟩
          · exact .inl e
          · refine .inr ⟨j, ?_, j2, j3⟩
            have : j ≠ i := fun q => g (by rw [j3, q])
            omega)
      rw [Int.natCast_succ] at e1
      refine ⟨M', e1, e2, e3.trans ?_⟩
      funext j
      exact zup_ne (by omega)
  have l2 : ∀ k i : Nat, i + k = xs.length → ∀ M : Nat → Int → Int, (∀ x, x ≠ n + 1 → x ≠ q + 3 → M x = m x) → (∀ s : Int, ¬ (0 ≤ s ∧ s < 3072) → M (n + 1) s = m (n + 1) s) → (∀ s : Int, 0 ≤ s → s < 3072 → M (n + 1) s = yTl b f xs s) → (∀ j : Nat, i ≤ j → M (q + 3) j = m (q + 3) j) → (∀ j : Nat, j < i → M (q + 3) j = if m (q + 3) j = 10 ∧ yCn b xs f (xs.getD j 0) = 1 then f else m (q + 3) j) → ∃ M', zmE (zmD zP (D+2)) zc_94 (37, [some (zr n), some (zi f), some (zr q), some (zi ((yNd M q i : Int) - yNd m q i)), some (zi i)], [], zW L M) = some (some (zi ((yNd M' q xs.length : Int) - yNd m q xs.length)), zW L M') ∧ yFr (q + 3) (q + 3) m M' ∧ ∀ j : Nat, j < xs.length → M' (q + 3) j = if m (q + 3) j = 10 ∧ yCn b xs f (xs.getD j 0) = 1 then f else m (q + 3) j := by
    intro k
    induction k with
    | zero =>
      intro i hi M h1 h2 h3 h4 h5
      obtain ⟨w1, w2⟩ := wf M h1
      have : i = xs.length := by omega
      subst this
      rw [zb_94_37, ylc hq, zk_90 (D + 1) hq, zbs, zmG_v, zb_94_43, w2.1, if_neg (by omega)]
      obtain ⟨M', e1, e2, e3⟩ := l3 ((yNd M q xs.length : Int) - yNd m q xs.length) xs.length 0 (by omega) M h1 h2 fun s s1 s2 => by
        rw [h3 s s1 s2]
        unfold yTl
        by_cases g : (xs.countP fun u => decide (yKf b f u = s)) = 0
        · rw [g]
          exact .inl rfl
        · obtain ⟨v, v1, v2⟩ := List.countP_pos_iff.mp (Nat.pos_of_ne_zero g)
          obtain ⟨j, j1, j2⟩ := List.getElem_of_mem v1
          refine .inr ⟨j, Nat.zero_le j, j1, ?_⟩
          rw [List.getD_eq_getElem?_getD, List.getElem?_eq_getElem j1]
          show s = yKf b f xs[j]
          rw [j2]
          exact (of_decide_eq_true v2).symm
      have e4 : yNd M' q xs.length = yNd M q xs.length := yNd_c _ fun j _ => by rw [e3]
      refine ⟨M', ?_, e2, fun j hj => by rw [e3]; exact h5 j hj⟩
      rw [e4]
      exact e1
    | succ k ih =>
      intro i hi M h1 h2 h3 h4 h5
      obtain ⟨w1, w2⟩ := wf M h1
      have ki := key i (by omega)
      have hl' : M q 3 ≤ R := by rw [w2.1]; omega
      have hin : 0 ≤ (i : Int) ∧ (i : Int) < M q 3 := by rw [w2.1]; omega
      have n1 := yNd_le (m := M) (q := q) i
      have n2 := yNd_le (m := m) (q := q) i
      have nM : yNd M q (i + 1) = yNd M q i + if M (q + 3) i ≠ 10 then 1 else 0 := rfl
      have nm : yNd m q (i + 1) = yNd m q i + if m (q + 3) i ≠ 10 then 1 else 0 := rfl
      have hcn : yTl b f xs (yKf b f (xs.getD i 0)) = 1 ↔ yCn b xs f (xs.getD i 0) = 1 := by
        unfold yCn yTl
        omega
      have keep : ¬ (m (q + 3) i = 10 ∧ yCn b xs f (xs.getD i 0) = 1) → ∃ M', zmE (zmD zP (D+2)) zc_94 (84, [some (zr n), some (zi f), some (zr q), some (zi ((yNd M q i : Int) - yNd m q i)), some (zi i)], [], zW L M) = some (some (zi ((yNd M' q xs.length : Int) - yNd m q xs.length)), zW L M') ∧ yFr (q + 3) (q + 3) m M' ∧ ∀ j : Nat, j < xs.length → M' (q + 3) j = if m (q + 3) j = 10 ∧ yCn b xs f (xs.getD j 0) = 1 then f else m (q + 3) j := fun g => by
        rw [zb_94_84, w32_of (by omega) (by omega)]
        have e := ih (i + 1) (by omega) M h1 h2 h3 (fun j hj => h4 j (by omega)) (fun j hj => by
          by_cases hj2 : j = i
          · rw [hj2, if_neg g]
            exact h4 i (Nat.le_refl i)
          · exact h5 j (by omega))
        rw [nM, nm, h4 i (Nat.le_refl i), Int.natCast_succ, Int.natCast_add, Int.natCast_add, show ((yNd M q i : Int) + ((if m (q + 3) i ≠ 10 then 1 else 0 : Nat) : Int) - ((yNd m q i : Int) + ((if m (q + 3) i ≠ 10 then 1 else 0 : Nat) : Int))) = (yNd M q i : Int) - yNd m q i by omega] at e
        exact e
      rw [zb_94_37, ylc hq, zk_90 (D + 1) hq, zbs, zmG_v, zb_94_43, w2.1, if_pos (by omega), ylc hq, zk_98 (D + 1) hq hl', if_pos hin, zbs, zmG_v, zb_94_52, h4 i (Nat.le_refl i)]
      by_cases g : m (q + 3) i = 10
      · rw [if_pos g, ynr hn, zbs, ync hn, zk_95 D hn hq w1 w2 hl ho f hf i (by omega), zbs, zmG_v, zb_94_69, yna hn ki.1 ki.2, zbs, h3 _ ki.1 ki.2]
        by_cases g2 : yCn b xs f (xs.getD i 0) = 1
        · rw [if_pos (hcn.mpr g2), ylc hq, zk_99 (D + 1) hq hl' i f hin, zbs, zmG_n, zb_94_81, zb_94_84, w32_of (by omega) (by omega), w32_of (by omega) (by omega)]
          have eN : yNd (zup M (q + 3) i f) q (i + 1) = yNd M q i + 1 := by
            show yNd (zup M (q + 3) i f) q i + (if zup M (q + 3) i f (q + 3) i ≠ 10 then 1 else 0) = _
            rw [zup_self, if_pos (by omega), yNd_c i fun j hj => zup_ne2 (by omega)]
          have e := ih (i + 1) (by omega) (zup M (q + 3) i f) (fun x x1 x2 => by
            funext j
            rw [zup_ne x2, h1 x x1 x2]) (fun s hs => by
            rw [zup_ne (by omega), h2 s hs]) (fun s s1 s2 => by
            rw [zup_ne (by omega), h3 s s1 s2]) (fun j hj => by
            rw [zup_ne2 (by omega)]
            exact h4 j (by omega)) (fun j hj => by
            by_cases hj2 : j = i
            · rw [hj2, zup_self, if_pos ⟨g, g2⟩]
            · rw [zup_ne2 (by omega)]
              exact h5 j (by omega))
          rw [eN, nm, if_neg (by omega), Int.natCast_succ, Int.natCast_succ, show ((yNd M q i : Int) + 1 - ((yNd m q i + 0 : Nat) : Int)) = (yNd M q i : Int) - yNd m q i + 1 by omega] at e
          exact e
        · rw [if_neg (fun q => g2 (hcn.mp q))]
          exact keep fun q => g2 q.2
      · rw [if_neg g]
        exact keep fun q => g q.1
  obtain ⟨M1, a1, a2, a3, a4⟩ := l1 xs.length 0 (by omega) none m (fun _ _ => rfl) (fun _ _ => rfl) (fun s s1 s2 => by
    rw [hz s s1 s2, List.take_zero]
    rfl)
  obtain ⟨M2, c1, c2, c3⟩ := l2 xs.length 0 (by omega) M1 (fun x x1 _ => a2 x x1) a3 a4 (fun j _ => by rw [a2 _ (by omega)]) (fun j hj => absurd hj (Nat.not_lt_zero j))
  refine ⟨M2, ?_, c2, c3⟩
  rw [zen_94, zb_94_0]
  exact a1.trans c1
end ZR
