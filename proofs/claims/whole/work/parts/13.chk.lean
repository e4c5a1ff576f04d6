/-! String.checkIndex, where the index is within -/
theorem zcat_pos (v : zmV) : 1 ≤ zcat v := by
  rcases v with z | z | z
  · exact Nat.le_refl 1
  · exact Nat.le_succ 1
  · exact Nat.le_refl 1
theorem zw_570 : zcw 67 ∈ zG := zG_of 659 (by decide +kernel)
theorem zw_573 : zcw 68 ∈ zG := zG_of 662 (by decide +kernel)
theorem zpc_met (l : Launch) (i n : Int32) (v : Value) (hv : v = .null ∨ ∃ t, v = .ref t) (h0 : 0 ≤ i.toInt) (h1 : i.toInt < n.toInt) : Met l (zMI 68).1 (zcw 68 :: zG) (zrm 0 0 0) (va_Pc [.int i, .int n, v] (fun _ => True)) (QcRead i) 0 0 (fun _ => False) := by
  refine Met.ofW (cc := (zMI 68).2.1) (maxL := 3) (ret := some .int) (by decide +kernel) rfl ?_
  intro p e s m args below meth c s₁ B hml hv0
  obtain ⟨rfl, -⟩ := hv0
  have hx := B.exec
  have hb := B.bytes
  have hr := B.returns
  have hlocks := B.notSynchronized
  have d0 : decode (zMI 68).2.1 0 = .ok (.iload_n 0, 1) := by decide +kernel
  have d1 : decode (zMI 68).2.1 1 = .ok (.ifCond .lt 8, 3) := by decide +kernel
  have d4 : decode (zMI 68).2.1 4 = .ok (.iload_n 0, 1) := by decide +kernel
  have d5 : decode (zMI 68).2.1 5 = .ok (.iload_n 1, 1) := by decide +kernel
  have d6 : decode (zMI 68).2.1 6 = .ok (.if_icmp .lt 10, 3) := by decide +kernel
  have d16 : decode (zMI 68).2.1 16 = .ok (.iload_n 0, 1) := by decide +kernel
  have d17 : decode (zMI 68).2.1 17 = .ok (.ireturn, 1) := by decide +kernel
  have key : ∀ ls : Array Slot, lv_has ls 3 [(0, .int i), (1, .int n)] → W p l e (headSpec (zcw 68 :: zG) (zrm 0 0 0)).room s m [Value.int i, Value.int n, v].toArray below meth c s.heap [] 0 0 (MQ below (QcRead i) [Value.int i, Value.int n, v].toArray s 0 0 (fun _ => False)) (F0 m 0 ls []) := by
    intro ls hl
    refine lv_iload_n hx hb d0 rfl (lv_at hl 0 rfl) ?_
    refine lv_if_lt (tgt := 9) hx hb d1 (by decide) (fun g => ?_) (fun _ => ?_)
    · have := zi_lt.mp g
      rw [zi_0] at this
      omega
    refine lv_iload_n hx hb d4 rfl (lv_at hl 0 rfl) ?_
    refine lv_iload_n hx hb d5 rfl (lv_at hl 1 rfl) ?_
    refine lv_icmp_lt (tgt := 16) hx hb d6 (by decide) (fun _ => ?_) (fun g => ?_)
    · refine lv_iload_n hx hb d16 rfl (lv_at hl 0 rfl) ?_
      exact W.iret hx hb hr (fun t ht hW => ⟨rfl, ht⟩) (fun q hq => by cases hq) d17
    · exact absurd (zi_lt.mpr h1) g
  rw [lg_entry_eq]
  have hln : (lg_sl [Value.int i, Value.int n, v]).length ≤ 3 := by
    rcases hv with rfl | ⟨t, rfl⟩ <;> exact Nat.le_of_ble_eq_true rfl
  have hl := lv_entry [Value.int i, Value.int n, v] (n := 3) hln
  exact key _ (lv_sub hl [0, 1] rfl)
theorem zchk_ok (l : Launch) {P : Nat → (Nat → zmI) × Nat} (hP : P 67 = (fun _ => zm_chk, 2)) (d : Nat) (A : List zmV) (w : zmW) (r : Option zmV) (w' : zmW) (h : zmD P (d + 1) 67 A w = some (r, w')) : (w.1 ≤ w'.1 ∧ w.2.1 ≤ w'.2.1) ∧ zMt l (d + 1) 67 A w r w' := by
  unfold zmD at h
  rw [hP] at h
  dsimp only at h
  split at h
  · rename_i hlen
    obtain ⟨k, hn⟩ := zmE_run h
    cases k with
    | zero => cases hn
    | succ k =>
      unfold zm_run at hn
      unfold zm_chk at hn
      have hA : ∃ i n, A = [.inl i, .inl n] ∧ 0 ≤ i ∧ i < n ∧ r = none ∧ w' = w := by
        split at hn
        · cases hn
        · rename_i c' hc
          split at hc
          · split at hc <;> cases hc
          · cases hc
        · rename_i r' hc
          split at hc
          · rename_i i n heq
            split at hc
            · rename_i hin
              cases hc
              cases hn
              refine ⟨i, n, ?_, hin.1, hin.2, rfl, rfl⟩
              unfold zinit at heq
              rcases A with _ | ⟨a, _ | ⟨b, _ | ⟨c, A⟩⟩⟩
              · simp at heq
              · rcases a with z | z | z <;> simp [zslots] at heq
              · rcases a with z | z | z <;> rcases b with y | y | y <;> simp [zslots] at heq
                obtain ⟨rfl, rfl⟩ := heq
                rfl
              · have h3 := zslots_cat a
                have h4 := zslots_cat b
                have h5 := zslots_cat c
                have q3 := zcat_pos a
                have q4 := zcat_pos b
                have q5 := zcat_pos c
                rw [List.flatMap_cons, List.flatMap_cons, List.flatMap_cons, List.length_append, List.length_append, List.length_append] at hlen
                omega
            · cases hc
          · cases hc
      obtain ⟨i, n, rfl, h0, h1, rfl, rfl⟩ := hA
      refine ⟨⟨Nat.le_refl _, Nat.le_refl _⟩, ?_⟩
      intro base ext D cA L xs vs hvs
      obtain ⟨x, k1, rfl, rfl, hvs1⟩ := zRS_int hvs
      obtain ⟨y, k2, rfl, rfl, hvs2⟩ := zRS_int hvs1
      obtain rfl := zRS_nil hvs2
      rw [Nat.sub_self, Nat.sub_self]
      refine Met.ofW (cc := (zMI 67).2.1) (maxL := 2) (ret := none) (by decide +kernel) rfl ?_
      intro p e s m args below meth c s₁ B hml hv
      obtain ⟨rfl, hR, hKs⟩ := hv
      have hts := atoms_spec (ws := zcw 67 :: zG) B.pre
      have hlocks := B.notSynchronized
      have hx := B.exec
      have hb := B.bytes
      have hr := B.returns
      have hown : s.vm.findClass "java/lang/String" = some m.cls := findClass_of_methodNamed B.named
      have d0 : decode (zMI 67).2.1 0 = .ok (.iload_n 0, 1) := by decide +kernel
      have d1 : decode (zMI 67).2.1 1 = .ok (.iload_n 1, 1) := by decide +kernel
      have d2 : decode (zMI 67).2.1 2 = .ok (.getstatic 1053, 3) := by decide +kernel
      have d5 : decode (zMI 67).2.1 5 = .ok (.invokestatic 1059, 3) := by decide +kernel
      have d8 : decode (zMI 67).2.1 8 = .ok (.pop, 1) := by decide +kernel
      have d9 : decode (zMI 67).2.1 9 = .ok (.return_, 1) := by decide +kernel
      have hw1 : Cond.fieldLink "java/lang/String" 1053 "jdk/internal/util/Preconditions" "SIOOBE_FORMATTER" "Ljava/util/function/BiFunction;" ∈ zG := zG_of 552 (by decide +kernel)
      have hw2 : Cond.methodLink "java/lang/String" 1059 (zMI 68).1 ∈ zG := zG_of 660 (by decide +kernel)
      have hw3 : Cond.static (zMI 68).1 ∈ zG := zG_of 661 (by decide +kernel)
      have hw4 : Cond.initialized (zMI 68).1.cls ∈ zG := zG_of 108 (by decide +kernel)
      rw [lg_entry_eq]
      have hl := lv_entry [Value.int x, Value.int y] (n := 2) (Nat.le_of_ble_eq_true rfl)
      generalize (lg_sl [Value.int x, Value.int y] ++ List.replicate (2 - (lg_sl [Value.int x, Value.int y]).length) Slot.unset).toArray = ls at hl ⊢
      have hl : lv_has ls 2 [(0, .int x), (1, .int y)] := hl
      refine lv_iload_n hx hb d0 rfl (lv_at hl 0 rfl) ?_
      refine lv_iload_n hx hb d1 rfl (lv_at hl 1 rfl) ?_
      have rest : ∀ v : Value, (v = .null ∨ ∃ t, v = .ref t) → W p l e (headSpec (zcw 67 :: zG) (zrm (d + 1) 0 0)).room s m [Value.int x, Value.int y].toArray below meth c s.heap [] 0 0 (MQ below (zQm base ext D cA L xs none w') [Value.int x, Value.int y].toArray s 0 0 (zA base)) (F0 m (2 + 3) ls [v, .int y, .int x]) := by
        intro v hv
        refine W.callR (r := x) (W.runS (nL := 2) (n := 3) (As := [.int x, .int y, v]) (rest := []) ⟨hx, hb, hml, hown, fun w hw => hts w (List.mem_cons_of_mem _ hw)⟩ (zpc_met l x y v hv h0 h1) ⟨callB_of (Ts := zG) 3 (fun w hw => hts w (List.mem_cons_of_mem _ hw)) (zgood_in zw_573) rfl rfl rfl (hts _ (List.mem_cons_of_mem _ hw4)) (hts _ (List.mem_cons_of_mem _ hw2)) (by decide +kernel) ⟨by show 0 + 1 ≤ d + 1; omega, by show 8 + (3 + 11) + 64 * 0 ≤ 64 * (d + 1); omega⟩, hts _ (List.mem_cons_of_mem _ hw3)⟩ ⟨fun a U g mk h => h, fun U hU hW => ⟨rfl, trivial⟩⟩ rfl rfl hl.1 rfl (lv_room (Nat.zero_le _)) d5 ⟨Nat.zero_le _, Nat.zero_le _⟩) ?_
        refine lv_pop (va := .int x) hx hb d8 rfl ?_
        exact W.vret hx hb hr (fun t ht hW => ⟨⟨none, trivial, rfl⟩, by rw [ht]; exact hR, va_S.rf.F ht⟩) (fun q hq => by cases hq) d9
      rcases hKs.2.2.2.2 with hz | ⟨t, hz⟩
      · exact va_gets hx hb hz va_S.rf hown (hts _ (List.mem_cons_of_mem _ hw1)) (fun _ h => h) d2 (rest _ (Or.inl rfl))
      · exact va_gets hx hb hz va_S.rf hown (hts _ (List.mem_cons_of_mem _ hw1)) (fun _ h => h) d2 (rest _ (Or.inr ⟨t, rfl⟩))
  · cases h
