/-! instructions that read the heap -/
theorem va_P1 {D : va_G} {cl : List vw_C} {q : Nat × va_E} {H : Heap} (h : va_at D cl q H) : va_P D cl [q] H := by
  intro k q' hk
  have hk0 : k < 1 := (List.getElem?_eq_some_iff.mp hk).1
  have : k = 0 := by omega
  subst this
  cases hk
  exact h
theorem zclamp {x : Int32} (h : 0 ≤ x.toInt) : (x.toNatClampNeg : Int) = x.toInt := Int.toNat_of_nonneg h
theorem zofNat {n : Nat} (h : n ≤ 100000) : (Int32.ofNat n).toInt = (n : Int) := by
  exact Int32.toInt_ofNat_of_lt (by omega)
theorem zvp_in {x : Int32} {n : Nat} (h : 0 ≤ x.toInt) (h2 : x.toInt < (n : Int)) : vp_in x n := by
  rintro (q | q)
  · have := zi_lt.mp q
    rw [zi_0] at this
    omega
  · have := zclamp h
    omega
theorem zvp_lt {x : Int32} {n : Nat} (h : 0 ≤ x.toInt) (h2 : x.toInt < (n : Int)) : x.toNatClampNeg < n := by
  have := zclamp h
  omega
theorem zRp_str {base : Nat} {ext : Nat → Nat} {D : va_G} {cA : Nat → ClassId} {L : Nat} {xs : Nat → Int32} {w : zmW} {H : Heap} {a : Nat} (h : zRp base ext D cA L xs w H) (hk : (w.2.2.1 a).1 = 60) : ∃ i, i < 2 ∧ a = zXB + 10 + i ∧ w.2.2.2.1 a 0 = some (zXB + 20 + i) ∧ w.2.2.2.2 a 1 = 0 := by
  obtain ⟨⟨g, hP, hg⟩, h1, h2, h3, h4⟩ := h
  rcases Nat.lt_or_ge a w.1 with q | q
  · have hc := hg a q
    rcases hgk : g a with ⟨c, n', x⟩ | ⟨ci', fs⟩
    · rw [hgk] at hc
      obtain ⟨t', q1, q2, q3, q4⟩ := hc
      rw [q2] at hk
      simp at hk
      omega
    · rw [hgk] at hc
      obtain ⟨q1, q2, -⟩ := hc
      omega
  · rcases Nat.lt_or_ge a zXB with q2 | q2
    · have := (h4 a q q2).1
      omega
    · obtain ⟨e1, e2, e3⟩ := h3 a q2
      rw [e1] at hk
      have ha : a = zXB + 10 ∨ a = zXB + 11 := by
        unfold zxs at hk
        repeat' split at hk
        all_goals first | (simp at hk; done) | omega
      refine ⟨a - (zXB + 10), by omega, by omega, ?_, ?_⟩
      · rw [e3]
        unfold zxr
        rw [if_pos ⟨ha, rfl⟩]
        exact congrArg some (by omega)
      · rw [e2]
        unfold zxm
        rw [if_neg (by omega), if_pos (by omega)]
theorem zRp_byt {base : Nat} {ext : Nat → Nat} {D : va_G} {cA : Nat → ClassId} {L : Nat} {xs : Nat → Int32} {w : zmW} {H : Heap} {a : Nat} (h : zRp base ext D cA L xs w H) (hk : (w.2.2.1 a).1 = 120) : ∃ i, i < 2 ∧ a = zXB + 20 + i ∧ (w.2.2.1 a).2 = 6 ∧ ∀ j : Int, w.2.2.2.2 a j = (zx_str.getD i []).getD j.toNat 0 := by
  obtain ⟨⟨g, hP, hg⟩, h1, h2, h3, h4⟩ := h
  rcases Nat.lt_or_ge a w.1 with q | q
  · have hc := hg a q
    rcases hgk : g a with ⟨c, n', x⟩ | ⟨ci', fs⟩
    · rw [hgk] at hc
      obtain ⟨t', q1, q2, q3, q4⟩ := hc
      rw [q2] at hk
      simp at hk
      omega
    · rw [hgk] at hc
      obtain ⟨q1, q2, -⟩ := hc
      omega
  · rcases Nat.lt_or_ge a zXB with q2 | q2
    · have := (h4 a q q2).1
      omega
    · obtain ⟨e1, e2, e3⟩ := h3 a q2
      rw [e1] at hk
      have ha : a = zXB + 20 ∨ a = zXB + 21 := by
        unfold zxs at hk
        repeat' split at hk
        all_goals first | (simp at hk; done) | omega
      refine ⟨a - (zXB + 20), by omega, by omega, ?_, fun j => ?_⟩
      · rw [e1]
        unfold zxs
        rw [if_neg (by omega), if_neg (by omega), if_neg (by omega), if_neg (by omega), if_pos (by omega)]
      · rw [e2]
        unfold zxm
        rw [if_neg (by omega), if_neg (by omega), if_pos (by omega)]
theorem zRp_int {base : Nat} {ext : Nat → Nat} {D : va_G} {cA : Nat → ClassId} {L : Nat} {xs : Nat → Int32} {w : zmW} {H : Heap} {a : Nat} (h : zRp base ext D cA L xs w H) (hk : (w.2.2.1 a).1 = 100) :
    (a < w.1 ∧ a < zXB) ∨ (∃ j, j < 5 ∧ a = zXB + j ∧ (w.2.2.1 a).2 = (zx_tab.getD j ("", "", [])).2.2.length ∧ ∀ i : Int, w.2.2.2.2 a i = (zx_tab.getD j ("", "", [])).2.2.getD i.toNat 0) ∨ (a = zXB + 30 ∧ (w.2.2.1 a).2 = L ∧ ∀ i : Int, w.2.2.2.2 a i = (xs i.toNat).toInt) := by
  obtain ⟨⟨g, hP, hg⟩, h1, h2, h3, h4⟩ := h
  rcases Nat.lt_or_ge a w.1 with q | q
  · left
    exact ⟨q, by omega⟩
  right
  rcases Nat.lt_or_ge a zXB with q2 | q2
  · have := (h4 a q q2).1
    omega
  · obtain ⟨e1, e2, e3⟩ := h3 a q2
    rw [e1] at hk
    rcases Nat.lt_or_ge a (zXB + 5) with q3 | q3
    · left
      refine ⟨a - zXB, by omega, by omega, ?_, fun i => ?_⟩
      · rw [e1]
        unfold zxs
        rw [if_pos q3]
      · rw [e2]
        unfold zxm
        rw [if_pos q3]
    · right
      have ha : a = zXB + 30 := by
        unfold zxs at hk
        repeat' split at hk
        all_goals first | (simp at hk; done) | omega
      refine ⟨ha, ?_, fun i => ?_⟩
      · rw [e1]
        unfold zxs
        rw [if_neg (by omega), if_neg (by omega), if_neg (by omega), if_neg (by omega), if_neg (by omega), if_pos ha]
      · rw [e2]
        unfold zxm
        rw [if_neg (by omega), if_neg (by omega), if_neg (by omega), if_pos ha]
theorem zx_b32_ok : ∀ i, i < 2 → ∀ j, j < 6 → ((zx_b32.getD i []).getD j 0).toInt = (zx_str.getD i []).getD j 0 := by decide +kernel
theorem zx_tab_ok : ∀ j, j < 5 → ∀ i, i < (zx_tab.getD j ("", "", [])).2.2.length → (Int32.ofInt ((zx_tab.getD j ("", "", [])).2.2.getD i 0)).toInt = (zx_tab.getD j ("", "", [])).2.2.getD i 0 := by decide +kernel
theorem zx_tab_get : ∀ j, j < 5 → zx_tab[j]? = some (zx_tab.getD j ("", "", [])) := by decide +kernel
theorem zph_ext {base : Nat} {ext : Nat → Nat} {j : Nat} : zph base ext (zXB + j) = ext j := by
  unfold zph
  rw [if_neg (by omega), Nat.add_sub_cancel_left]
section ZH
variable {l : Launch} {own : String} {cc : ByteArray} {nL pc : Nat}
theorem zs_getI {ix ci k : Nat} {kz : Int} (hkz : (k : Int) = kz) (hci : ci < 13) (hk : k < zN ci) (hr : zisR ci k = false) (hd : decode cc pc = .ok (.getfield ix, 3)) (hw : Cond.fieldLink own ix (zC ci) (zT ci k).2.1 (zT ci k).2.2.1 ∈ zG) : zFl l own cc nL pc (zm_getI (pc + 3) ci kz) := by
  intro K c c' hpc hf
  unfold zm_getI at hf
  split at hf
  · rename_i a st0 heq
    unfold zGI at hf
    split at hf
    · rename_i hkd
      obtain rfl := Sum.inl.inj (Option.some.inj hf)
      refine ⟨rfl, ?_⟩
      intro p e R s m args below meth co Q base ext D cA L xs d cells slots H locs X hR hS ls st hL hst kk
      obtain ⟨hx, hb, hml, hown, hts, hKs, hfr, hlo⟩ := X
      rw [heq] at hst
      obtain ⟨k1, rfl, hst2⟩ := zRS_ref hst
      obtain ⟨ha, hax, fs, hat, hlen, hfs⟩ := zRp_obj hR hci hkd
      obtain ⟨v, hv, hF⟩ := hfs k hk
      unfold zRF at hF
      rw [if_neg (by rw [hr]; decide)] at hF
      obtain ⟨x, rfl, hx2⟩ := hF
      rw [zph_own hax]
      exact va_get (D := D) (cl := zcl) hx hb hts (zlay_in ci hci) hown hKs.1 (va_P1 hat) 0 rfl (zcl_get hci) k hk (hts _ hw) (fun _ h => h) hv hd (kk ls _ hL ⟨⟨x, rfl, by rw [hx2, hkz]⟩, hst2⟩)
    · cases hf
  · cases hf
theorem zs_getR {ix ci k : Nat} {kz : Int} (hkz : (k : Int) = kz) (hci : ci < 13) (hk : k < zN ci) (hr : zisR ci k = true) (hd : decode cc pc = .ok (.getfield ix, 3)) (hw : Cond.fieldLink own ix (zC ci) (zT ci k).2.1 (zT ci k).2.2.1 ∈ zG) : zFl l own cc nL pc (zm_getR (pc + 3) ci kz) := by
  intro K c c' hpc hf
  unfold zm_getR at hf
  split at hf
  · rename_i a st0 heq
    unfold zGR at hf
    split at hf
    · rename_i hkd
      cases hmr : c.2.2.2.2.2.2.1 a kz with
      | none =>
        rw [hmr] at hf
        cases hf
      | some r =>
        rw [hmr] at hf
        obtain rfl := Sum.inl.inj (Option.some.inj hf)
        refine ⟨rfl, ?_⟩
        intro p e R s m args below meth co Q base ext D cA L xs d cells slots H locs X hR hS ls st hL hst kk
        obtain ⟨hx, hb, hml, hown, hts, hKs, hfr, hlo⟩ := X
        rw [heq] at hst
        obtain ⟨k1, rfl, hst2⟩ := zRS_ref hst
        obtain ⟨ha, hax, fs, hat, hlen, hfs⟩ := zRp_obj hR hci hkd
        obtain ⟨v, hv, hF⟩ := hfs k hk
        unfold zRF at hF
        rw [if_pos hr, hkz, hmr] at hF
        subst hF
        rw [zph_own hax]
        exact va_get (D := D) (cl := zcl) hx hb hts (zlay_in ci hci) hown hKs.1 (va_P1 hat) 0 rfl (zcl_get hci) k hk (hts _ hw) (fun _ h => h) hv hd (kk ls _ hL ⟨rfl, hst2⟩)
    · cases hf
  · cases hf
/-- a text's coder and bytes -/
theorem zs_coder {ix : Nat} (hd : decode cc pc = .ok (.getfield ix, 3)) (hw : Cond.fieldLink own ix "java/lang/String" "coder" "B" ∈ zG) : zFl l own cc nL pc (zm_getI (pc + 3) 60 1) := by
  intro K c c' hpc hf
  unfold zm_getI at hf
  split at hf
  · rename_i a st0 heq
    unfold zGI at hf
    split at hf
    · rename_i hkd
      obtain rfl := Sum.inl.inj (Option.some.inj hf)
      refine ⟨rfl, ?_⟩
      intro p e R s m args below meth co Q base ext D cA L xs d cells slots H locs X hR hS ls st hL hst kk
      obtain ⟨hx, hb, hml, hown, hts, hKs, hfr, hlo⟩ := X
      rw [heq] at hst
      obtain ⟨k1, rfl, hst2⟩ := zRS_ref hst
      obtain ⟨i, hi, rfl, e1, e2⟩ := zRp_str hR hkd
      have hSt := hKs.2.1.2.2.1
      rw [Nat.add_assoc, zph_ext]
      exact va_getX (N := 2) (v := fun _ => .int 0) (ad := fun i => ext (10 + i)) (i := i) hx hb (fun i hi => (hSt.1 i hi).2.1) hi hS hown (hts _ hw) (fun _ h => h) hd (kk ls _ hL ⟨⟨0, rfl, by rw [e2]; rfl⟩, hst2⟩)
    · cases hf
  · cases hf
theorem zs_bytes {ix : Nat} (hd : decode cc pc = .ok (.getfield ix, 3)) (hw : Cond.fieldLink own ix "java/lang/String" "value" "[B" ∈ zG) : zFl l own cc nL pc (zm_getR (pc + 3) 60 0) := by
  intro K c c' hpc hf
  unfold zm_getR at hf
  split at hf
  · rename_i a st0 heq
    unfold zGR at hf
    split at hf
    · rename_i hkd
      cases hmr : c.2.2.2.2.2.2.1 a 0 with
      | none =>
        rw [hmr] at hf
        cases hf
      | some r =>
        rw [hmr] at hf
        obtain rfl := Sum.inl.inj (Option.some.inj hf)
        refine ⟨rfl, ?_⟩
        intro p e R s m args below meth co Q base ext D cA L xs d cells slots H locs X hR hS ls st hL hst kk
        obtain ⟨hx, hb, hml, hown, hts, hKs, hfr, hlo⟩ := X
        rw [heq] at hst
        obtain ⟨k1, rfl, hst2⟩ := zRS_ref hst
        obtain ⟨i, hi, rfl, e1, e2⟩ := zRp_str hR hkd
        rw [hmr] at e1
        obtain rfl := Option.some.inj e1
        have hSt := hKs.2.1.2.2.1
        have e3 : zph base ext (zXB + 20 + i) = ext (20 + i) := by rw [Nat.add_assoc, zph_ext]
        rw [Nat.add_assoc, zph_ext]
        exact va_getX (N := 2) (v := fun i => .ref (ext (20 + i))) (ad := fun i => ext (10 + i)) (i := i) hx hb (fun i hi => (hSt.1 i hi).2.2.1) hi hS hown (hts _ hw) (fun _ h => h) hd (kk ls _ hL ⟨by show Value.ref _ = Value.ref _; rw [e3], hst2⟩)
    · cases hf
  · cases hf
theorem zs_table {ix j : Nat} (hj : j < 5) (hd : decode cc pc = .ok (.getstatic ix, 3)) (hw : Cond.fieldLink own ix (zx_tab.getD j ("", "", [])).1 (zx_tab.getD j ("", "", [])).2.1 "[I" ∈ zG) : zFl l own cc nL pc (zm_pushr (pc + 3) (zXB + j)) := by
  intro K c c' hpc hf
  obtain rfl := Sum.inl.inj (Option.some.inj hf)
  refine ⟨rfl, ?_⟩
  intro p e R s m args below meth co Q base ext D cA L xs d cells slots H locs X hR hS ls st hL hst kk
  obtain ⟨hx, hb, hml, hown, hts, hKs, hfr, hlo⟩ := X
  exact va_gets hx hb (hKs.2.1.1 j _ _ _ (zx_tab_get j hj)).1 hS hown (hts _ hw) (fun _ h => h) hd (kk ls _ hL ⟨by show Value.ref _ = Value.ref _; rw [zph_ext], hst⟩)
theorem zs_compact {ix : Nat} (hd : decode cc pc = .ok (.getstatic ix, 3)) (hw : Cond.fieldLink own ix "java/lang/String" "COMPACT_STRINGS" "Z" ∈ zG) : zFl l own cc nL pc (zm_push (pc + 3) 1) := by
  intro K c c' hpc hf
  obtain rfl := Sum.inl.inj (Option.some.inj hf)
  refine ⟨rfl, ?_⟩
  intro p e R s m args below meth co Q base ext D cA L xs d cells slots H locs X hR hS ls st hL hst kk
  obtain ⟨hx, hb, hml, hown, hts, hKs, hfr, hlo⟩ := X
  exact va_gets hx hb hKs.2.1.2.1 hS hown (hts _ hw) (fun _ h => h) hd (kk ls _ hL ⟨⟨1, rfl, rfl⟩, hst⟩)
theorem zs_text0 (ho : own = "ChessWire$Board") (hd : decode cc pc = .ok (.ldc 22, 2)) : zFl l own cc nL pc (zm_pushr (pc + 2) (zXB + 10)) := by
  intro K c c' hpc hf
  obtain rfl := Sum.inl.inj (Option.some.inj hf)
  refine ⟨rfl, ?_⟩
  intro p e R s m args below meth co Q base ext D cA L xs d cells slots H locs X hR hS ls st hL hst kk
  obtain ⟨hx, hb, hml, hown, hts, hKs, hfr, hlo⟩ := X
  subst ho
  exact va_ldcS hx hb hown hKs.2.1.2.2.2.1 hd (kk ls _ hL ⟨by show Value.ref _ = Value.ref _; rw [zph_ext], hst⟩)
theorem zs_text1 (ho : own = "ChessWire$Board") (hd : decode cc pc = .ok (.ldc 30, 2)) : zFl l own cc nL pc (zm_pushr (pc + 2) (zXB + 11)) := by
  intro K c c' hpc hf
  obtain rfl := Sum.inl.inj (Option.some.inj hf)
  refine ⟨rfl, ?_⟩
  intro p e R s m args below meth co Q base ext D cA L xs d cells slots H locs X hR hS ls st hL hst kk
  obtain ⟨hx, hb, hml, hown, hts, hKs, hfr, hlo⟩ := X
  subst ho
  exact va_ldcS hx hb hown hKs.2.1.2.2.2.2.1 hd (kk ls _ hL ⟨by show Value.ref _ = Value.ref _; rw [zph_ext], hst⟩)
theorem zs_iald (hd : decode cc pc = .ok (.iaload, 1)) : zFl l own cc nL pc (zm_ald (pc + 1) 100) := by
  intro K c c' hpc hf
  unfold zm_ald at hf
  split at hf
  · rename_i i a st0 heq
    unfold zAI at hf
    split at hf
    · rename_i hkd
      obtain ⟨hkd, hi0, hi1⟩ := hkd
      obtain rfl := Sum.inl.inj (Option.some.inj hf)
      refine ⟨rfl, ?_⟩
      intro p e R s m args below meth co Q base ext D cA L xs d cells slots H locs X hR hS ls st hL hst kk
      obtain ⟨hx, hb, hml, hown, hts, hKs, hfr, hlo⟩ := X
      rw [heq] at hst
      obtain ⟨x, k1, rfl, hx2, hst1⟩ := zRS_int hst
      obtain ⟨k2, rfl, hst2⟩ := zRS_ref hst1
      subst hx2
      have hc := zclamp hi0
      rcases zRp_int hR hkd with ⟨ha, hax⟩ | ⟨j, hj, rfl, e1, e2⟩ | ⟨rfl, e1, e2⟩
      · obtain ⟨-, -, y, hat, hA⟩ := zRp_arr (t := 0) (n := (c.2.2.2.2.2.1 a).2) hR ha (Prod.ext hkd rfl)
        rcases y with f | f | f | f | f
        · rw [zph_own hax]
          refine va_iald (D := D) (cl := zcl) hx hb hKs.1 (va_P1 hat) 0 0 rfl (ztl_get (t := 0) (by decide)) (zvp_in hi0 hi1) hd (kk ls _ hL ⟨⟨_, rfl, ?_⟩, hst2⟩)
          rw [hA.2 _ (zvp_lt hi0 hi1), hc]
        · exact absurd hA.1 (by decide)
        · exact hA.elim
        · exact hA.elim
        · exact absurd hA.1 (by decide)
      · rw [zph_ext]
        have hT := (hKs.2.1.1 j _ _ _ (zx_tab_get j hj)).2
        rw [e1] at hi1
        refine va_ti hx hb hT hS (zvp_in hi0 hi1) rfl hd (kk ls _ hL ⟨⟨_, rfl, ?_⟩, hst2⟩)
        have hc2 : x.toNatClampNeg = x.toInt.toNat := rfl
        rw [e2, ← hc2]
        exact zx_tab_ok j hj _ (zvp_lt hi0 hi1)
      · rw [zph_ext]
        obtain ⟨-, -, -, -, -, h6, h7, h8⟩ := hKs.2.1
        rw [e1] at hi1
        refine va_sld hx hb h6 h7 h8 hS (zvp_in hi0 hi1) hd (kk ls _ hL ⟨⟨_, rfl, ?_⟩, hst2⟩)
        rw [e2]
        rfl
    · cases hf
  · cases hf
theorem zs_zald (hd : decode cc pc = .ok (.baload, 1)) : zFl l own cc nL pc (zm_ald (pc + 1) 102) := by
  intro K c c' hpc hf
  unfold zm_ald at hf
  split at hf
  · rename_i i a st0 heq
    unfold zAI at hf
    split at hf
    · rename_i hkd
      obtain ⟨hkd, hi0, hi1⟩ := hkd
      obtain rfl := Sum.inl.inj (Option.some.inj hf)
      refine ⟨rfl, ?_⟩
      intro p e R s m args below meth co Q base ext D cA L xs d cells slots H locs X hR hS ls st hL hst kk
      obtain ⟨hx, hb, hml, hown, hts, hKs, hfr, hlo⟩ := X
      rw [heq] at hst
      obtain ⟨x, k1, rfl, hx2, hst1⟩ := zRS_int hst
      obtain ⟨k2, rfl, hst2⟩ := zRS_ref hst1
      subst hx2
      have hc := zclamp hi0
      have ha : a < c.2.2.2.1 := by
        obtain ⟨-, -, q3, q4, q5⟩ := hR
        rcases Nat.lt_or_ge a c.2.2.2.1 with q | q
        · exact q
        · exfalso
          rcases Nat.lt_or_ge a zXB with q2 | q2
          · have := (q5 a q q2).1
            omega
          · have e := (q4 a q2).1
            rw [e] at hkd
            unfold zxs at hkd
            repeat' split at hkd
            all_goals (simp at hkd)
      obtain ⟨hax, -, y, hat, hA⟩ := zRp_arr (t := 2) (n := (c.2.2.2.2.2.1 a).2) hR ha (Prod.ext hkd rfl)
      rcases y with f | f | f | f | f
      · rw [zph_own hax]
        refine va_zald (D := D) (cl := zcl) hx hb hKs.1 (va_P1 hat) 0 2 rfl (ztl_get (t := 2) (by decide)) (zvp_in hi0 hi1) hd (kk ls _ hL ⟨⟨_, rfl, ?_⟩, hst2⟩)
        rw [hA.2 _ (zvp_lt hi0 hi1), hc]
      · exact absurd hA.1 (by decide)
      · exact hA.elim
      · exact hA.elim
      · exact absurd hA.1 (by decide)
    · cases hf
  · cases hf
theorem zs_bald (hd : decode cc pc = .ok (.baload, 1)) : zFl l own cc nL pc (zm_ald (pc + 1) 120) := by
  intro K c c' hpc hf
  unfold zm_ald at hf
  split at hf
  · rename_i i a st0 heq
    unfold zAI at hf
    split at hf
    · rename_i hkd
      obtain ⟨hkd, hi0, hi1⟩ := hkd
      obtain rfl := Sum.inl.inj (Option.some.inj hf)
      refine ⟨rfl, ?_⟩
      intro p e R s m args below meth co Q base ext D cA L xs d cells slots H locs X hR hS ls st hL hst kk
      obtain ⟨hx, hb, hml, hown, hts, hKs, hfr, hlo⟩ := X
      rw [heq] at hst
      obtain ⟨x, k1, rfl, hx2, hst1⟩ := zRS_int hst
      obtain ⟨k2, rfl, hst2⟩ := zRS_ref hst1
      subst hx2
      obtain ⟨j, hj, rfl, e1, e2⟩ := zRp_byt hR hkd
      rw [e1] at hi1
      have hT := (hKs.2.1.2.2.1.1 j hj).2.2.2
      have hl : ([6, 6] : List Nat).getD j 0 = 6 := by
        rcases (show j = 0 ∨ j = 1 by omega) with rfl | rfl <;> rfl
      rw [hl] at hT
      have e3 : zph base ext (zXB + 20 + j) = ext (20 + j) := by rw [Nat.add_assoc, zph_ext]
      rw [e3]
      refine va_tb hx hb hT hS (zvp_in hi0 hi1) rfl hd (kk ls _ hL ⟨⟨_, rfl, ?_⟩, hst2⟩)
      rw [e2]
      exact zx_b32_ok j hj _ (zvp_lt hi0 hi1)
    · cases hf
  · cases hf
theorem zs_lald (hd : decode cc pc = .ok (.laload, 1)) : zFl l own cc nL pc (zm_lald (pc + 1)) := by
  intro K c c' hpc hf
  unfold zm_lald at hf
  split at hf
  · rename_i i a st0 heq
    unfold zAI at hf
    split at hf
    · rename_i hkd
      obtain ⟨hkd, hi0, hi1⟩ := hkd
      obtain rfl := Sum.inl.inj (Option.some.inj hf)
      refine ⟨rfl, ?_⟩
      intro p e R s m args below meth co Q base ext D cA L xs d cells slots H locs X hR hS ls st hL hst kk
      obtain ⟨hx, hb, hml, hown, hts, hKs, hfr, hlo⟩ := X
      rw [heq] at hst
      obtain ⟨x, k1, rfl, hx2, hst1⟩ := zRS_int hst
      obtain ⟨k2, rfl, hst2⟩ := zRS_ref hst1
      subst hx2
      have hc := zclamp hi0
      have ha : a < c.2.2.2.1 := by
        obtain ⟨-, -, q3, q4, q5⟩ := hR
        rcases Nat.lt_or_ge a c.2.2.2.1 with q | q
        · exact q
        · exfalso
          rcases Nat.lt_or_ge a zXB with q2 | q2
          · have := (q5 a q q2).1
            omega
          · have e := (q4 a q2).1
            rw [e] at hkd
            unfold zxs at hkd
            repeat' split at hkd
            all_goals (simp at hkd)
      obtain ⟨hax, -, y, hat, hA⟩ := zRp_arr (t := 1) (n := (c.2.2.2.2.2.1 a).2) hR ha (Prod.ext hkd rfl)
      rcases y with f | f | f | f | f
      · exact absurd hA.1 (by decide)
      · rw [zph_own hax]
        refine va_lald (D := D) (cl := zcl) hx hb hKs.1 (va_P1 hat) 0 1 rfl (ztl_get (t := 1) (by decide)) (zvp_in hi0 hi1) hd (kk ls _ hL ⟨⟨_, rfl, ?_⟩, hst2⟩)
        rw [hA.2 _ (zvp_lt hi0 hi1), hc]
      · exact hA.elim
      · exact hA.elim
      · exact absurd hA.1 (by decide)
    · cases hf
  · cases hf
theorem zs_aald {t : Nat} (ht3 : 3 ≤ t) (ht8 : t < 8) {E : String} (hE : ztys.getD t .int = .object E) {t1 : Nat} (ht1 : t1 = 100 + t) (hd : decode cc pc = .ok (.aaload, 1)) : zFl l own cc nL pc (zm_aald (pc + 1) t1) := by
  subst ht1
  intro K c c' hpc hf
  unfold zm_aald at hf
  split at hf
  · rename_i i a st0 heq
    unfold zAR at hf
    split at hf
    · rename_i hkd
      obtain ⟨hkd, hi0, hi1⟩ := hkd
      cases hmr : c.2.2.2.2.2.2.1 a i with
      | none =>
        rw [hmr] at hf
        cases hf
      | some r =>
        rw [hmr] at hf
        obtain rfl := Sum.inl.inj (Option.some.inj hf)
        refine ⟨rfl, ?_⟩
        intro p e R s m args below meth co Q base ext D cA L xs d cells slots H locs X hR hS ls st hL hst kk
        obtain ⟨hx, hb, hml, hown, hts, hKs, hfr, hlo⟩ := X
        rw [heq] at hst
        obtain ⟨x, k1, rfl, hx2, hst1⟩ := zRS_int hst
        obtain ⟨k2, rfl, hst2⟩ := zRS_ref hst1
        subst hx2
        have hc := zclamp hi0
        have ha : a < c.2.2.2.1 := by
          obtain ⟨-, -, q3, q4, q5⟩ := hR
          rcases Nat.lt_or_ge a c.2.2.2.1 with q | q
          · exact q
          · exfalso
            rcases Nat.lt_or_ge a zXB with q2 | q2
            · have := (q5 a q q2).1
              omega
            · have e := (q4 a q2).1
              rw [e] at hkd
              unfold zxs at hkd
              repeat' split at hkd
              all_goals (simp at hkd; try omega)
        obtain ⟨hax, -, y, hat, hA⟩ := zRp_arr (t := t) (n := (c.2.2.2.2.2.1 a).2) hR ha (Prod.ext hkd rfl)
        rcases y with f | f | f | f | f
        · exact absurd hA.1 (by omega)
        · exact absurd hA.1 (by omega)
        · exact hA.elim
        · exact hA.elim
        · rw [zph_own hax]
          refine va_aldq (D := D) (cl := zcl) (C := E) hx hb hKs.1 (va_P1 hat) 0 t rfl (by rw [ztl_get ht8, hE]) (zvp_in hi0 hi1) hd ?_
          rw [hA.2 _ (zvp_lt hi0 hi1), hc, hmr]
          exact kk ls _ hL ⟨rfl, hst2⟩
    · cases hf
  · cases hf
theorem zs_alen (hd : decode cc pc = .ok (.arraylength, 1)) : zFl l own cc nL pc (zm_alen (pc + 1)) := by
  intro K c c' hpc hf
  unfold zm_alen at hf
  split at hf
  · rename_i a st0 heq
    unfold zLen at hf
    split at hf
    · rename_i hkd
      obtain rfl := Sum.inl.inj (Option.some.inj hf)
      refine ⟨rfl, ?_⟩
      intro p e R s m args below meth co Q base ext D cA L xs d cells slots H locs X hR hS ls st hL hst kk
      obtain ⟨hx, hb, hml, hown, hts, hKs, hfr, hlo⟩ := X
      rw [heq] at hst
      obtain ⟨k2, rfl, hst2⟩ := zRS_ref hst
      have hR0 := hR
      obtain ⟨⟨g, hP, hg⟩, q2, q3, q4, q5⟩ := hR
      rcases Nat.lt_or_ge a c.2.2.2.1 with q | q
      · have hc := hg a q
        have hp := hP a _ (zWL_get q)
        rw [zph_own (by omega)]
        rcases hgk : g a with ⟨cc0, n', x⟩ | ⟨ci', fs⟩
        · rw [hgk] at hc hp
          obtain ⟨t', h1, h2, h3, h4⟩ := hc
          subst h3
          have e : (c.2.2.2.2.2.1 a).2 = n' := by rw [h2]
          rw [e] at kk hkd
          exact va_alen (D := D) (cl := zcl) hx hb hKs.1 (va_P1 hp) 0 t' rfl (ztl_get h1) (v := Int32.ofNat n') rfl hd (kk ls _ hL ⟨⟨_, rfl, zofNat hkd.2⟩, hst2⟩)
        · rw [hgk] at hc
          obtain ⟨h1, h2, -⟩ := hc
          omega
      · rcases Nat.lt_or_ge a zXB with q6 | q6
        · have := (q5 a q q6).1
          omega
        · have e := (q4 a q6).1
          by_cases g1 : a < zXB + 5
          · have e2 : (c.2.2.2.2.2.1 a).2 = (zx_tab.getD (a - zXB) ("", "", [])).2.2.length := by
              rw [e]
              unfold zxs
              rw [if_pos g1]
            have e3 : zph base ext a = ext (a - zXB) := by
              unfold zph
              rw [if_neg (by omega)]
            have hj5 : a - zXB < 5 := by omega
            generalize a - zXB = j at e2 e3 hj5
            have hT := (hKs.2.1.1 j _ _ _ (zx_tab_get j hj5)).2
            rw [e2] at kk hkd
            rw [e3]
            exact va_tlen hx hb hT hS rfl hd (kk ls _ hL ⟨⟨_, rfl, zofNat hkd.2⟩, hst2⟩)
          · by_cases g2 : a = zXB + 20 ∨ a = zXB + 21
            · have e2 : (c.2.2.2.2.2.1 a).2 = 6 := by
                rw [e]
                unfold zxs
                rw [if_neg (by omega), if_neg (by omega), if_neg (by omega), if_neg (by omega), if_pos (by omega)]
              have hT := (hKs.2.1.2.2.1.1 (a - (zXB + 20)) (by omega)).2.2.2
              have hl : ([6, 6] : List Nat).getD (a - (zXB + 20)) 0 = 6 := by
                rcases (show a - (zXB + 20) = 0 ∨ a - (zXB + 20) = 1 by omega) with h | h <;> rw [h] <;> rfl
              rw [hl] at hT
              have e3 : zph base ext a = ext (20 + (a - (zXB + 20))) := by
                unfold zph
                rw [if_neg (by omega)]
                exact congrArg ext (by omega)
              rw [e2] at kk
              rw [e3]
              exact va_tlen hx hb hT hS rfl hd (kk ls _ hL ⟨⟨_, rfl, rfl⟩, hst2⟩)
            · have g3 : a = zXB + 30 := by
                have h100 := hkd.1
                rw [e] at h100
                unfold zxs at h100
                repeat' split at h100
                all_goals first | (simp at h100; done) | omega
              have e2 : (c.2.2.2.2.2.1 a).2 = L := by
                rw [e]
                unfold zxs
                rw [if_neg (by omega), if_neg (by omega), if_neg (by omega), if_neg (by omega), if_neg (by omega), if_pos g3]
              obtain ⟨-, -, -, -, -, h6, h7, h8⟩ := hKs.2.1
              rw [e2] at kk hkd
              have e3 : zph base ext a = ext 30 := by rw [g3, zph_ext]
              rw [e3]
              exact va_slen hx hb h6 h7 h8 hS hd (kk ls _ hL ⟨⟨_, rfl, zofNat hkd.2⟩, hst2⟩)
    · cases hf
  · cases hf
theorem zs_tsw {df : Nat} {ts : List Nat} {d0 lo hi : Int} {offs : Array Int} {len : Nat} (hd : decode cc pc = .ok (.tableswitch d0 lo hi offs, len)) (h0 : (pc : Int) + d0 = (df : Int)) (hs : offs.toList.map (fun o => (pc : Int) + o) = ts.map (fun (t : Nat) => (t : Int))) (hl : (ts.length : Int) = hi - lo + 1) : zFl l own cc nL pc (zm_tsw df lo hi ts) := by
  intro K c c' hpc hf
  unfold zm_tsw at hf
  split at hf
  · rename_i x0 st0 heq
    obtain rfl := Sum.inl.inj (Option.some.inj hf)
    refine ⟨rfl, ?_⟩
    intro p e R s m args below meth co Q base ext D cA L xs d cells slots H locs X hR hS ls st hL hst kk
    obtain ⟨hx, hb, hml, hown, hts, hKs, hfr, hlo⟩ := X
    rw [heq] at hst
    obtain ⟨x, k2, rfl, hx2, hst2⟩ := zRS_int hst
    subst hx2
    have kk2 := kk ls k2 hL hst2
    dsimp only at kk2
    by_cases g : x.toInt < lo ∨ hi < x.toInt
    · rw [if_pos g] at kk2
      exact lv_tableOut hx hb hd g h0 kk2
    · rw [if_neg g] at kk2
      have g1 : ¬ x.toInt < lo := fun q => g (Or.inl q)
      have g2 : ¬ hi < x.toInt := fun q => g (Or.inr q)
      have hlt : (x.toInt - lo).toNat < ts.length := by omega
      have h1 : (offs.toList.map (fun o => (pc : Int) + o))[(x.toInt - lo).toNat]? = some ((ts.getD (x.toInt - lo).toNat df : Nat) : Int) := by
        rw [hs, List.getElem?_map, List.getElem?_eq_getElem hlt, List.getD_eq_getElem?_getD, List.getElem?_eq_getElem hlt]
        rfl
      rw [List.getElem?_map] at h1
      cases ho : offs.toList[(x.toInt - lo).toNat]? with
      | none =>
        rw [ho] at h1
        cases h1
      | some off =>
        rw [ho] at h1
        exact lv_tableIn hx hb hd g1 g2 (by rw [← Array.getElem?_toList]; exact ho) (Option.some.inj h1) kk2
  · cases hf
theorem zlook_off {pc : Nat} {d0 : Int} {df : Nat} (h0 : (pc : Int) + d0 = (df : Int)) : ∀ (ps : List (Int × Int)) (qs : List (Int × Nat)) (x : Int), ps.map (fun p => (p.1, (pc : Int) + p.2)) = qs.map (fun q => (q.1, (q.2 : Int))) → (pc : Int) + Op.lookupswitch.offset ps d0 x = ((zlook df qs x : Nat) : Int)
  | [], [], x, _ => h0
  | [], q :: qs, x, h => by cases h
  | p :: ps, [], x, h => by cases h
  | (a, o) :: ps, (b, t) :: qs, x, h => by
    rw [List.map_cons, List.map_cons] at h
    injection h with h1 h2
    injection h1 with h3 h4
    dsimp only at h3 h4
    rw [Op.lookupswitch.offset_cons]
    unfold zlook
    subst h3
    by_cases g : x = a
    · rw [if_pos g, if_pos (by first | exact g | exact g.symm)]
      exact h4
    · rw [if_neg g, if_neg (by first | exact g | exact fun q => g q.symm)]
      exact zlook_off h0 ps qs x h2
theorem zs_lsw {df : Nat} {qs : List (Int × Nat)} {d0 : Int} {ps : Array (Int × Int)} {len : Nat} (hd : decode cc pc = .ok (.lookupswitch d0 ps, len)) (h0 : (pc : Int) + d0 = (df : Int)) (hs : ps.toList.map (fun p => (p.1, (pc : Int) + p.2)) = qs.map (fun q => (q.1, (q.2 : Int)))) (hp : (ps.toList.zip (ps.toList.drop 1)).all (fun (a, next) => a.1 < next.1) = true) : zFl l own cc nL pc (zm_lsw df qs) := by
  intro K c c' hpc hf
  unfold zm_lsw at hf
  split at hf
  · rename_i x0 st0 heq
    obtain rfl := Sum.inl.inj (Option.some.inj hf)
    refine ⟨rfl, ?_⟩
    intro p e R s m args below meth co Q base ext D cA L xs d cells slots H locs X hR hS ls st hL hst kk
    obtain ⟨hx, hb, hml, hown, hts, hKs, hfr, hlo⟩ := X
    rw [heq] at hst
    obtain ⟨x, k2, rfl, hx2, hst2⟩ := zRS_int hst
    subst hx2
    exact lv_lookup hx hb hd hp rfl (zlook_off h0 _ _ _ hs) (kk ls k2 hL hst2)
  · cases hf
end ZH
