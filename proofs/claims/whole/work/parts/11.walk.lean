/-! calls, returns, and the walk of a whole method -/
section ZCG
variable {p : Program} {l : Launch} {e : Env} {R : Room} {s : State} {m : MethodId} {args : Array Value} {below : List Frame} {meth : Method} {c : Code} {H : Heap} {locs : List Loc} {cells slots mc ms : Nat} {Q : State → Prop}
variable {pc : Nat} {ls : Array Slot} {rest st0 : List Value} {a : Array Value} {base : Nat} {ext : Nat → Nat} {D : va_G} {cA : Nat → ClassId} {L : Nat} {xs : Nat → Int32} {r : Option zmV} {w' : zmW}
theorem zcall_go (hr : va_Run p l e R s m args below meth c H locs cells slots mc ms (F0 m pc ls st0) rest (zQm base ext D cA L xs r w' a) (zA base)) (hS : va_S (zA base) s.heap H locs)
    (kk : ∀ (v : Option Value) (H1 : Heap) (locs1 : List Loc), zRO base ext r v → zRp base ext D cA L xs w' H1 → va_S (zA base) s.heap H1 locs1 → W p l e R s m args below meth c H1 locs1 (cells + mc) (slots + ms) Q (F0 m (pc + 3) ls (v.toList ++ rest))) : W p l e R s m args below meth c H locs cells slots Q (F0 m pc ls st0) := by
  intro T hT X
  obtain ⟨v, st₀, t, T', Lc, h0, X', hL, e1, e2, ⟨⟨v1, hv1, hv⟩, hrp, hz, hk⟩, st⟩ := hr T hT X
  cases hv
  rw [h0] at hz hk
  obtain ⟨t2, a1, b1⟩ := kk v T'.heap (locs ++ Lc) hv1 (by rw [e1]; exact hrp)
    ⟨Nat.le_trans hS.1 (by rw [e1]; exact hz), fun q h1 h2 => by rw [e1, hk q (Nat.lt_of_lt_of_le h1 hS.1) h2]; exact hS.2.1 q h1 h2, fun q hq => by
      rcases List.mem_append.mp hq with h | h
      · exact hS.2.2 q h
      · exact hL q h⟩ T' rfl X'
  exact ⟨t2, st t2 a1, b1⟩
theorem zKs_at {U : State} (hK : zKs base ext D cA L xs s) (hS : va_S (zA base) s.heap H locs) (hU : U.heap = H) (hW : s.WarmedH U.vm) : zKs base ext D cA L xs U := by
  obtain ⟨h1, h2, h3, h4, h5⟩ := hK
  refine ⟨h1.moved hW.alike, ?_, h3.moved hW.alike, by rw [hU]; exact Nat.le_trans h4 hS.1, ?_⟩
  · rw [hU]
    exact (h2.kept hS.1 hS.2.1).warm hW
  · rw [hU]
    exact (h5.kept hS.2.1).moved hW.alike
theorem zpre_blind {vs : List Value} {w : zmW} : FrameBlind (va_Pc vs (fun U => zRp base ext D cA L xs w U.heap ∧ zKs base ext D cA L xs U)) := by
  intro a U g mk h
  obtain ⟨h1, h2, h3, h4, h5, h6, h7⟩ := h
  exact ⟨h1, h2, va_K.moved (u := U) (U := U.calling g mk a) (Vm.Alike.refl U.vm) h3, zXF.same (s := U) (U := U.calling g mk a) rfl h4, zAOs.moved (u := U) (U := U.calling g mk a) (Vm.Alike.refl U.vm) h5, h6, h7.moved (u := U) (U := U.calling g mk a) (Vm.Alike.refl U.vm)⟩
theorem zpre_at {vs : List Value} {w : zmW} (hR : zRp base ext D cA L xs w H) (hK : zKs base ext D cA L xs s) (hS : va_S (zA base) s.heap H locs) : ∀ U : State, U.heap = H → s.WarmedH U.vm → va_Pc vs (fun U => zRp base ext D cA L xs w U.heap ∧ zKs base ext D cA L xs U) vs.toArray U :=
  fun U hU hW => ⟨rfl, by rw [hU]; exact hR, zKs_at hK hS hU hW⟩
end ZCG
theorem zgood_in {y : Nat} (h : zcw y ∈ zG) : GoodIn zG (zcw y :: zG) := fun w hw => by
  have hm : w ∈ zG := (List.mem_cons.mp hw).elim (fun e => e ▸ h) id
  exact ⟨hm, good_of_word (zG_good w hm)⟩
/-- what a call pushes -/
def zafter (nx : Nat) (L : zmL) (st : List zmV) (v : Bool) (r : zmR) : Option (zmC ⊕ zmR) := match r.1, v with
  | some u, true => some (.inl (nx, L, u :: st, r.2))
  | none, false => some (.inl (nx, L, st, r.2))
  | _, _ => none
theorem zafter_inv {nx : Nat} {L : zmL} {st : List zmV} {v : Bool} {r : zmR} {c' : zmC} (h : zafter nx L st v r = some (.inl c')) : c' = (nx, L, r.1.toList ++ st, r.2) := by
  obtain ⟨u, w⟩ := r
  unfold zafter at h
  cases u <;> cases v <;> simp at h <;> exact h.symm
theorem zcall_inv {nx y n : Nat} {v : Bool} {ci : Nat} {K : zmK} {c c' : zmC} (h : zm_call nx y n v ci K c = some (.inl c')) : n ≤ c.2.2.1.length ∧ ((c.2.2.1.drop n).map zcat).sum ≤ 8 ∧ (ci = 99 ∨ zrecv c.2.2.2 ci (c.2.2.1.take n).reverse = true) ∧ ∃ r, K y (c.2.2.1.take n).reverse c.2.2.2 = some r ∧ c' = (nx, c.2.1, r.1.toList ++ c.2.2.1.drop n, r.2) := by
  unfold zm_call at h
  split at h
  · rename_i h1
    refine ⟨h1.1, h1.2.1, ?_, ?_⟩
    · have := h1.2.2
      rw [Bool.or_eq_true, beq_iff_eq] at this
      exact this
    · cases hk : K y (c.2.2.1.take n).reverse c.2.2.2 with
      | none =>
        rw [hk] at h
        cases h
      | some r =>
        rw [hk] at h
        exact ⟨r, rfl, zafter_inv (v := v) h⟩
  · cases h
theorem zRO_list {base : Nat} {ext : Nat → Nat} {r : Option zmV} {v : Option Value} {l : List zmV} {k : List Value} (h : zRO base ext r v) (h2 : zRS base ext l k) : zRS base ext (r.toList ++ l) (v.toList ++ k) := by
  cases r <;> cases v
  · exact h2
  · exact h.elim
  · exact h.elim
  · exact ⟨h, h2⟩
section ZC
variable {l : Launch} {own : String} {cc : ByteArray} {nL pc : Nat} {ini : Bool}
theorem zcells {a b n0 R : Nat} (h1 : n0 ≤ a) (h2 : a ≤ b) (h3 : b - n0 ≤ R) : a - n0 + (b - a) ≤ R := by omega
theorem zcells2 {a b n0 : Nat} (h1 : n0 ≤ a) (h2 : a ≤ b) : a - n0 + (b - a) = b - n0 := by omega
theorem zs_callS {ix y n : Nat} {v : Bool} (hn : (parseMethodDescriptor (zMI y).1.desc).map (fun d => d.parameters.length) = some n) (hmL : (zMI y).2.2.1 ≤ 40) (hne : (zMI y).1.cls ≠ "java/lang/invoke/MethodHandle" ∧ (zMI y).1.cls ≠ "java/lang/invoke/VarHandle") (hcw : zcw y ∈ zG) (hst0 : Cond.static (zMI y).1 ∈ zG) (hini : Cond.initialized (zMI y).1.cls ∈ zG) (hlink : Cond.methodLink own ix (zMI y).1 ∈ zG) (hd : decode cc pc = .ok (.invokestatic ix, 3)) : zSnd l own cc nL ini pc (zm_call (pc + 3) y n v 99) := by
  intro d K hK c c' hpc hf
  obtain ⟨hlen, hsum, -, r, hk, rfl⟩ := zcall_inv hf
  obtain ⟨r, w'⟩ := r
  obtain ⟨⟨hm1, hm2⟩, hMet⟩ := hK y _ _ r w' hk
  refine ⟨⟨hm1, hm2⟩, ?_⟩
  intro p e R s m args below meth co Q base ext D cA L xs n0 s0 X hin h1 h2 h3 h4 hA H locs ls st hR hS hL hst
  have X0 := X
  obtain ⟨hx, hb, hml, hown, hts, hKs, hfr, hlo⟩ := X
  dsimp only at h3 h4
  obtain ⟨hc1, hc2⟩ := zRS_cat _ _ hst
  have hrs := zRS_rev _ _ (zRS_take n _ _ hst)
  have hdr := zRS_drop n _ _ hst
  have hL2 := hL
  obtain ⟨lv, hlv, -, -⟩ := hL2
  have hA2 : ∀ (v : Option Value) (H1 : Heap) (locs1 : List Loc), zRO base ext r v → zRp base ext D cA L xs w' H1 → va_S (zA base) s.heap H1 locs1 → W p l e R s m args below meth co H1 locs1 (c.2.2.2.1 - n0 + (w'.1 - c.2.2.2.1)) (c.2.2.2.2.1 - s0 + (w'.2.1 - c.2.2.2.2.1)) Q (F0 m (pc + 3) ls (v.toList ++ st.drop n)) := fun v H1 locs1 hv hR1 hS1 => by
    rw [zcells2 h1 hm1, zcells2 h2 hm2]
    exact hA H1 locs1 ls _ hR1 hS1 hL (zRO_list hv hdr)
  rw [hpc]
  refine zcall_go (va_runS (nL := nL) (n := n) (As := (st.take n).reverse) (rest := st.drop n) ⟨hx, hb, hml, hown, hts⟩ (hMet base ext D cA L xs (st.take n).reverse hrs) ⟨callB_of (Ts := zG) n hts (zgood_in hcw) rfl rfl rfl (hts _ hini) (hts _ hlink) ⟨hne.1, hne.2, hn⟩ ⟨hfr, by show 8 + _ + 64 * d ≤ _; omega⟩, hts _ hst0⟩ ⟨zpre_blind, zpre_at hR hKs hS⟩ rfl ?_ hlv.1 ?_ (lv_room ?_) hd ⟨zcells h1 hm1 h3, zcells h2 hm2 h4⟩) hS hA2
  · rw [List.length_reverse, List.length_take, hc2]
    omega
  · rw [List.reverse_reverse]
    exact (List.take_append_drop n st).symm
  · rw [(zRS_cat _ _ hdr).1]
    exact hsum
/-- the receiver and the rest of a call's arguments -/
theorem zrecv_inv {w : zmW} {ci : Nat} {A : List zmV} (h : zrecv w ci A = true) : ∃ a A', A = .inr (.inr a) :: A' ∧ (w.2.2.1 a).1 = ci := by
  unfold zrecv at h
  split at h
  · exact ⟨_, _, rfl, by simpa using h⟩
  · cases h
theorem zs_callV {ix y n ci : Nat} {v : Bool} (hci : ci < 13) (hcl : (zMI y).1.cls = zC ci) (hn : (parseMethodDescriptor (zMI y).1.desc).map (fun d => d.parameters.length) = some n) (hmL : (zMI y).2.2.1 ≤ 40) (hne : (zMI y).1.cls ≠ "java/lang/invoke/MethodHandle" ∧ (zMI y).1.cls ≠ "java/lang/invoke/VarHandle") (hcw : zcw y ∈ zG) (hins : Cond.instanceMethod (zMI y).1 ∈ zG) (hsel : Cond.selects (zMI y).1.cls (zMI y).1 (zMI y).1 ∈ zG) (hini : Cond.initialized (zMI y).1.cls ∈ zG) (hlink : Cond.methodLink own ix (zMI y).1 ∈ zG) {n1 : Nat} (hn1 : n1 = n + 1) (hd : decode cc pc = .ok (.invokevirtual ix, 3)) : zSnd l own cc nL ini pc (zm_call (pc + 3) y n1 v ci) := by
  subst hn1
  intro d K hK c c' hpc hf
  obtain ⟨hlen, hsum, hrv, r, hk, rfl⟩ := zcall_inv hf
  have hrv : zrecv c.2.2.2 ci (c.2.2.1.take (n + 1)).reverse = true := hrv.elim (fun q => by omega) id
  obtain ⟨a, A', hAe, hka⟩ := zrecv_inv hrv
  obtain ⟨r, w'⟩ := r
  obtain ⟨⟨hm1, hm2⟩, hMet⟩ := hK y _ _ r w' hk
  refine ⟨⟨hm1, hm2⟩, ?_⟩
  intro p e R s m args below meth co Q base ext D cA L xs n0 s0 X hin h1 h2 h3 h4 hA H locs ls st hR hS hL hst
  obtain ⟨hx, hb, hml, hown, hts, hKs, hfr, hlo⟩ := X
  dsimp only at h3 h4
  obtain ⟨hc1, hc2⟩ := zRS_cat _ _ hst
  have hrs := zRS_rev _ _ (zRS_take (n + 1) _ _ hst)
  have hdr := zRS_drop (n + 1) _ _ hst
  have hL2 := hL
  obtain ⟨lv, hlv, -, -⟩ := hL2
  have hA2 : ∀ (v : Option Value) (H1 : Heap) (locs1 : List Loc), zRO base ext r v → zRp base ext D cA L xs w' H1 → va_S (zA base) s.heap H1 locs1 → W p l e R s m args below meth co H1 locs1 (c.2.2.2.1 - n0 + (w'.1 - c.2.2.2.1)) (c.2.2.2.2.1 - s0 + (w'.2.1 - c.2.2.2.2.1)) Q (F0 m (pc + 3) ls (v.toList ++ st.drop (n + 1))) := fun v H1 locs1 hv hR1 hS1 => by
    rw [zcells2 h1 hm1, zcells2 h2 hm2]
    exact hA H1 locs1 ls _ hR1 hS1 hL (zRO_list hv hdr)
  obtain ⟨ha, hax, fs, hat, hfl, hfs⟩ := zRp_obj hR hci hka
  have hrs2 := hrs
  rw [hAe] at hrs2
  obtain ⟨As, hAs, hrs3⟩ := zRS_ref hrs2
  rw [zph_own hax] at hAs
  have hlenA : (st.take (n + 1)).length = n + 1 := by
    rw [List.length_take, hc2]
    omega
  have hlenAs : As.length = n := by
    have := congrArg List.length hAs
    rw [List.length_reverse, hlenA, List.length_cons] at this
    omega
  have hstk : st = As.reverse ++ .ref (base + a) :: st.drop (n + 1) := by
    have e1 : st.take (n + 1) = As.reverse ++ [.ref (base + a)] := by
      have := congrArg List.reverse hAs
      rw [List.reverse_reverse, List.reverse_cons] at this
      exact this
    calc st = st.take (n + 1) ++ st.drop (n + 1) := (List.take_append_drop _ st).symm
      _ = _ := by rw [e1, List.append_assoc]; rfl
  rw [hpc]
  have hrc := va_recv hKs.1 (va_P1 hat) (q0 := 0) (zcl_get hci) rfl
  have hMv := hMet base ext D cA L xs (.ref (base + a) :: As) (by rw [← hAs]; exact hrs)
  refine zcall_go (va_runV (nL := nL) (n := n) (C := zC ci) (b := base + a) (As := As) (rest := st.drop (n + 1)) ⟨hx, hb, hml, hown, hts⟩ hMv ⟨callB_of (Ts := zG) n hts (zgood_in hcw) rfl rfl rfl (hts _ hini) (hts _ hlink) ⟨hne.1, hne.2, hn⟩ ⟨hfr, by show 8 + _ + 64 * d ≤ _; omega⟩, hts _ hins, hts _ (by rw [hcl] at hsel; exact hsel)⟩ ⟨zpre_blind, hrc, zpre_at hR hKs hS⟩ rfl hlenAs hlv.1 hstk (lv_room ?_) hd ⟨zcells h1 hm1 h3, zcells h2 hm2 h4⟩) hS hA2
  rw [(zRS_cat _ _ hdr).1]
  exact hsum
/-- a call on a text -/
theorem zs_callX {ix y n : Nat} {v : Bool} (hcl : (zMI y).1.cls = "java/lang/String") (hn : (parseMethodDescriptor (zMI y).1.desc).map (fun d => d.parameters.length) = some n) (hmL : (zMI y).2.2.1 ≤ 40) (hne : (zMI y).1.cls ≠ "java/lang/invoke/MethodHandle" ∧ (zMI y).1.cls ≠ "java/lang/invoke/VarHandle") (hcw : zcw y ∈ zG) (hins : Cond.instanceMethod (zMI y).1 ∈ zG) (hsel : Cond.selects (zMI y).1.cls (zMI y).1 (zMI y).1 ∈ zG) (hini : Cond.initialized (zMI y).1.cls ∈ zG) (hlink : Cond.methodLink own ix (zMI y).1 ∈ zG) {n1 : Nat} (hn1 : n1 = n + 1) (hd : decode cc pc = .ok (.invokevirtual ix, 3)) : zSnd l own cc nL ini pc (zm_call (pc + 3) y n1 v 60) := by
  subst hn1
  intro d K hK c c' hpc hf
  obtain ⟨hlen, hsum, hrv, r, hk, rfl⟩ := zcall_inv hf
  have hrv : zrecv c.2.2.2 60 (c.2.2.1.take (n + 1)).reverse = true := hrv.elim (fun q => by omega) id
  obtain ⟨a, A', hAe, hka⟩ := zrecv_inv hrv
  obtain ⟨r, w'⟩ := r
  obtain ⟨⟨hm1, hm2⟩, hMet⟩ := hK y _ _ r w' hk
  refine ⟨⟨hm1, hm2⟩, ?_⟩
  intro p e R s m args below meth co Q base ext D cA L xs n0 s0 X hin h1 h2 h3 h4 hA H locs ls st hR hS hL hst
  obtain ⟨hx, hb, hml, hown, hts, hKs, hfr, hlo⟩ := X
  dsimp only at h3 h4
  obtain ⟨hc1, hc2⟩ := zRS_cat _ _ hst
  have hrs := zRS_rev _ _ (zRS_take (n + 1) _ _ hst)
  have hdr := zRS_drop (n + 1) _ _ hst
  have hL2 := hL
  obtain ⟨lv, hlv, -, -⟩ := hL2
  have hA2 : ∀ (v : Option Value) (H1 : Heap) (locs1 : List Loc), zRO base ext r v → zRp base ext D cA L xs w' H1 → va_S (zA base) s.heap H1 locs1 → W p l e R s m args below meth co H1 locs1 (c.2.2.2.1 - n0 + (w'.1 - c.2.2.2.1)) (c.2.2.2.2.1 - s0 + (w'.2.1 - c.2.2.2.2.1)) Q (F0 m (pc + 3) ls (v.toList ++ st.drop (n + 1))) := fun v H1 locs1 hv hR1 hS1 => by
    rw [zcells2 h1 hm1, zcells2 h2 hm2]
    exact hA H1 locs1 ls _ hR1 hS1 hL (zRO_list hv hdr)
  obtain ⟨i, hi, hai, -, -⟩ := zRp_str hR hka
  have e3 : zph base ext a = ext (10 + i) := by rw [hai, Nat.add_assoc, zph_ext]
  have hrs2 := hrs
  rw [hAe] at hrs2
  obtain ⟨As, hAs, hrs3⟩ := zRS_ref hrs2
  rw [e3] at hAs
  have hlenA : (st.take (n + 1)).length = n + 1 := by
    rw [List.length_take, hc2]
    omega
  have hlenAs : As.length = n := by
    have := congrArg List.length hAs
    rw [List.length_reverse, hlenA, List.length_cons] at this
    omega
  have hstk : st = As.reverse ++ .ref (ext (10 + i)) :: st.drop (n + 1) := by
    have e1 : st.take (n + 1) = As.reverse ++ [.ref (ext (10 + i))] := by
      have := congrArg List.reverse hAs
      rw [List.reverse_reverse, List.reverse_cons] at this
      exact this
    calc st = st.take (n + 1) ++ st.drop (n + 1) := (List.take_append_drop _ st).symm
      _ = _ := by rw [e1, List.append_assoc]; rfl
  rw [hpc]
  have hrc := va_Orecv (hKs.2.1.2.2.1.1 i hi).1 hS
  have hMv := hMet base ext D cA L xs (.ref (ext (10 + i)) :: As) (by rw [← hAs]; exact hrs)
  refine zcall_go (va_runV (nL := nL) (n := n) (C := "java/lang/String") (b := ext (10 + i)) (As := As) (rest := st.drop (n + 1)) ⟨hx, hb, hml, hown, hts⟩ hMv ⟨callB_of (Ts := zG) n hts (zgood_in hcw) rfl rfl rfl (hts _ hini) (hts _ hlink) ⟨hne.1, hne.2, hn⟩ ⟨hfr, by show 8 + _ + 64 * d ≤ _; omega⟩, hts _ hins, hts _ (by rw [hcl] at hsel; exact hsel)⟩ ⟨zpre_blind, hrc, zpre_at hR hKs hS⟩ rfl hlenAs hlv.1 hstk (lv_room ?_) hd ⟨zcells h1 hm1 h3, zcells h2 hm2 h4⟩) hS hA2
  rw [(zRS_cat _ _ hdr).1]
  exact hsum
/-- a constructor's call; the receiver's kind is asked, for its address -/
theorem zs_callI {ix y n ci : Nat} {v : Bool} (hci : ci < 13) (hnm : (zMI y).1.name = "<init>") (hret : (zMI y).2.2.2 = none) (hn : (parseMethodDescriptor (zMI y).1.desc).map (fun d => d.parameters.length) = some n) (hmL : (zMI y).2.2.1 ≤ 40) (hne : (zMI y).1.cls ≠ "java/lang/invoke/MethodHandle" ∧ (zMI y).1.cls ≠ "java/lang/invoke/VarHandle") (hcw : zcw y ∈ zG) (hins : Cond.instanceMethod (zMI y).1 ∈ zG) (hini : Cond.initialized (zMI y).1.cls ∈ zG) (hlink : Cond.methodLink own ix (zMI y).1 ∈ zG) {n1 : Nat} (hn1 : n1 = n + 1) (hd : decode cc pc = .ok (.invokespecial ix, 3)) : zSnd l own cc nL ini pc (zm_call (pc + 3) y n1 v ci) := by
  subst hn1
  intro d K hK c c' hpc hf
  obtain ⟨hlen, hsum, hrv, r, hk, rfl⟩ := zcall_inv hf
  have hrv : zrecv c.2.2.2 ci (c.2.2.1.take (n + 1)).reverse = true := hrv.elim (fun q => by omega) id
  obtain ⟨a, A', hAe, hka⟩ := zrecv_inv hrv
  obtain ⟨r, w'⟩ := r
  obtain ⟨⟨hm1, hm2⟩, hMet⟩ := hK y _ _ r w' hk
  refine ⟨⟨hm1, hm2⟩, ?_⟩
  intro p e R s m args below meth co Q base ext D cA L xs n0 s0 X hin h1 h2 h3 h4 hA H locs ls st hR hS hL hst
  obtain ⟨hx, hb, hml, hown, hts, hKs, hfr, hlo⟩ := X
  dsimp only at h3 h4
  obtain ⟨hc1, hc2⟩ := zRS_cat _ _ hst
  have hrs := zRS_rev _ _ (zRS_take (n + 1) _ _ hst)
  have hdr := zRS_drop (n + 1) _ _ hst
  have hL2 := hL
  obtain ⟨lv, hlv, -, -⟩ := hL2
  have hA2 : ∀ (v : Option Value) (H1 : Heap) (locs1 : List Loc), zRO base ext r v → zRp base ext D cA L xs w' H1 → va_S (zA base) s.heap H1 locs1 → W p l e R s m args below meth co H1 locs1 (c.2.2.2.1 - n0 + (w'.1 - c.2.2.2.1)) (c.2.2.2.2.1 - s0 + (w'.2.1 - c.2.2.2.2.1)) Q (F0 m (pc + 3) ls (v.toList ++ st.drop (n + 1))) := fun v H1 locs1 hv hR1 hS1 => by
    rw [zcells2 h1 hm1, zcells2 h2 hm2]
    exact hA H1 locs1 ls _ hR1 hS1 hL (zRO_list hv hdr)
  obtain ⟨ha, hax, fs, hat, hfl, hfs⟩ := zRp_obj hR hci hka
  have hrs2 := hrs
  rw [hAe] at hrs2
  obtain ⟨As, hAs, hrs3⟩ := zRS_ref hrs2
  rw [zph_own hax] at hAs
  have hlenA : (st.take (n + 1)).length = n + 1 := by
    rw [List.length_take, hc2]
    omega
  have hlenAs : As.length = n := by
    have := congrArg List.length hAs
    rw [List.length_reverse, hlenA, List.length_cons] at this
    omega
  have hstk : st = As.reverse ++ .ref (base + a) :: st.drop (n + 1) := by
    have e1 : st.take (n + 1) = As.reverse ++ [.ref (base + a)] := by
      have := congrArg List.reverse hAs
      rw [List.reverse_reverse, List.reverse_cons] at this
      exact this
    calc st = st.take (n + 1) ++ st.drop (n + 1) := (List.take_append_drop _ st).symm
      _ = _ := by rw [e1, List.append_assoc]; rfl
  rw [hpc]
  have hMv := hMet base ext D cA L xs (.ref (base + a) :: As) (by rw [← hAs]; exact hrs)
  have hcb := callB_of (R := R) (s := s) (args := args) (own := own) (index := ix) (Ts := zG) (rm := zrm d (w'.1 - c.2.2.2.1) (w'.2.1 - c.2.2.2.2.1)) n hts (zgood_in hcw) rfl rfl rfl (hts _ hini) (hts _ hlink) ⟨hne.1, hne.2, hn⟩ ⟨hfr, by show 8 + _ + 64 * d ≤ _; omega⟩
  rw [hret] at hcb
  refine zcall_go (va_runI (nL := nL) (n := n) (b := base + a) (As := As) (rest := st.drop (n + 1)) ⟨hx, hb, hml, hown, hts⟩ hMv ⟨hcb, hnm, hts _ hins⟩ ⟨zpre_blind, zpre_at hR hKs hS⟩ rfl hlenAs hlv.1 hstk (lv_room ?_) hd ⟨zcells h1 hm1 h3, zcells h2 hm2 h4⟩) hS hA2
  rw [(zRS_cat _ _ hdr).1]
  exact hsum
theorem zs_no : zSnd l own cc nL ini pc zm_no := by
  intro d K hK c c' hpc hf
  cases hf
end ZC
