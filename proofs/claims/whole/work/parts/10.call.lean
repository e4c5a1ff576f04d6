/-! new arrays, Object.<init>, arraycopy, calls -/
section ZCP
variable {p : Program} {l : Launch} {e : Env} {R : Room} {s : State} {m : MethodId} {args : Array Value} {below : List Frame} {meth : Method} {c : Code} {H : Heap} {locs : List Loc} {cells slots : Nat} {Q : State → Prop}
variable {cc : ByteArray} {pc : Nat} {ls : Array Slot} {rest : List Value} {D : va_G} {cA : Nat → ClassId} {a base : Nat} {own : String}
theorem zW_copy (hexec : p.tables.exec = Jvm.exec) (hb : c.code = cc) (hml : c.maxLocals = ls.size) {index : Nat} (hown : s.vm.findClass own = some m.cls) (hlink : (Cond.methodLink own index arraycopyName).before args s = true) (hnat : (Cond.native arraycopyName).before args s = true) (hstat : (Cond.static arraycopyName).before args s = true) (hini : (Cond.initialized "java/lang/System").before args s = true)
    (hK : va_K D zcl (ztl cA) s) (hS : va_S (zA base) s.heap H locs) (hA : base ≤ a) {a0 : Nat} {n0 n1 : Nat} {f g : Nat → Int32} (hc0 : H[a0]? = some (vp_cell (cA 0) (n0, .inl f))) (hc1 : H[a]? = some (vp_cell (cA 0) (n1, .inl g)))
    {sp dp n : Int32} (h1 : ¬ sp < 0) (h2 : ¬ dp < 0) (h3 : ¬ n < 0) (h4 : sp.toNatClampNeg + n.toNatClampNeg ≤ n0) (h5 : dp.toNatClampNeg + n.toNatClampNeg ≤ n1)
    (hframes : 1 ≤ R.frames) (hlocals : (rest.map fun v => v.category).sum + (nativeFrameWords "java/lang/System" "arraycopy" 5 + 11) ≤ R.locals) (hdg : decode cc pc = .ok (.invokestatic index, 3))
    (kk : ∀ (H1 : Heap) (locs1 : List Loc), H1[a]? = some (vp_cell (cA 0) (n1, .inl (va_cpy f g sp.toNatClampNeg dp.toNatClampNeg n.toNatClampNeg))) → H1.size = H.size → (∀ q : Nat, q ≠ a → H1[q]? = H[q]?) → va_S (zA base) s.heap H1 locs1 → W p l e R s m args below meth c H1 locs1 cells slots Q (F0 m (pc + 3) ls rest)) : W p l e R s m args below meth c H locs cells slots Q (F0 m pc ls (.int n :: .int dp :: .ref a :: .int sp :: .ref a0 :: rest)) := by
  have nn : ∀ z : Int32, ¬ z < 0 → z.toInt = (z.toNatClampNeg : Int) := by
    intro z hz
    have hz0 : (0 : Int) ≤ z.toInt := by
      have := Int32.not_lt.mp hz
      simpa using Int32.le_iff_toInt_le.mp this
    show z.toInt = ((z.toInt.toNat : Nat) : Int)
    omega
  intro T hT X
  obtain ⟨-, k0, hk0, cm0, hkk0⟩ := (hK.2 0 _ (ztl_get (by decide))).1 n0 (fun j => .int (f j))
  obtain ⟨-, k1, hk1, cm1, hkk1⟩ := (hK.2 0 _ (ztl_get (by decide))).1 n1 (fun j => .int (g j))
  obtain ⟨vm', X', step⟩ := X.arraycopy hexec hown hlink hnat hstat hini (src := a0) (dst := a) (cs := vp_cell (cA 0) (n0, .inl f)) (cd := vp_cell (cA 0) (n1, .inl g)) (srcPos := sp) (destPos := dp) (n := n) (by rw [hT]; exact hc0) (by rw [hT]; exact hc1)
    (fun _ h => by cases h) (fun _ h => by cases h) (fun h => by cases h) (fun h => by cases h) hk0 hk1 hkk0 hkk1 (by simp [refKind]) h1 h2 h3
    (by rw [nn sp h1, nn n h3]; show ¬ _ > ((arrV (cA 0) n0 (fun j => .int (f j))).slots.size : Int); rw [arrV_size]; omega)
    (by rw [nn dp h2, nn n h3]; show ¬ _ > ((arrV (cA 0) n1 (fun j => .int (g j))).slots.size : Int); rw [arrV_size]; omega)
    (fun vm₁ _ i hi => by
      have e : (vp_cell (cA 0) (n0, .inl f)).slots.getD (sp.toNatClampNeg + i) .null = .int (f (sp.toNatClampNeg + i)) := by
        show (arrV (cA 0) n0 (fun j => .int (f j))).slots.getD _ _ = _
        rw [Array.getD_eq_getD_getElem?, arrV_read _ _ (by omega)]
        rfl
      refine ⟨?_, ?_⟩
      · rw [e]
        rfl
      · rw [e]
        exact trivial)
    (g := F0 m pc ls (.int n :: .int dp :: .ref a :: .int sp :: .ref a0 :: rest)) rfl (by rw [hml]) (rest := rest) rfl (by rw [hb]; exact hdg) hframes (by show 2 * 0 + _ + _ ≤ _; omega)
  have e1 : copied (vp_cell (cA 0) (n0, .inl f)) (vp_cell (cA 0) (n1, .inl g)) sp dp n = vp_cell (cA 0) (n1, .inl (va_cpy f g sp.toNatClampNeg dp.toNatClampNeg n.toNatClampNeg)) := va_copied (fun z => .int z) (cA 0) (cA 0) f g h4
  rw [e1] at X' step
  have hl : a < H.size := (Array.getElem?_eq_some_iff.mp hc1).1
  have hheap : ((T.setVm vm').setCell a (vp_cell (cA 0) (n1, .inl (va_cpy f g sp.toNatClampNeg dp.toNatClampNeg n.toNatClampNeg)))).heap = H.setIfInBounds a (vp_cell (cA 0) (n1, .inl (va_cpy f g sp.toNatClampNeg dp.toNatClampNeg n.toNatClampNeg))) := by rw [← hT]; rfl
  have oq : ∀ q : Nat, q ≠ a → (H.setIfInBounds a (vp_cell (cA 0) (n1, .inl (va_cpy f g sp.toNatClampNeg dp.toNatClampNeg n.toNatClampNeg))))[q]? = H[q]? := fun q hq => by simp [Array.getElem?_setIfInBounds, Ne.symm hq]
  obtain ⟨t, a1, b1⟩ := kk _ _ (show (H.setIfInBounds a _)[a]? = some _ by simp [Array.getElem?_setIfInBounds, hl]) (by simp) oq ⟨by simp; exact hS.1, fun q g1 g2 => by
      rw [oq q (fun e => g2 (by rw [e]; exact hA))]
      exact hS.2.1 q g1 g2, fun q hq => by
      rcases List.mem_append.mp hq with h | h
      · exact hS.2.2 q h
      · obtain ⟨z, -, hz⟩ := List.mem_map.mp h
        rw [← hz]
        exact hA⟩ _ hheap X'
  exact ⟨t, step t a1, b1⟩
end ZCP
section ZN
variable {l : Launch} {own : String} {cc : ByteArray} {nL pc : Nat} {ini : Bool}
theorem znat {x : Int32} (h : ¬ x.toInt < 0) : x.toNatClampNeg = x.toInt.toNat := rfl
/-- the three kinds of arrays of numbers -/
theorem zs_newaK {t : Nat} {at_ : ArrayType} {mk : Nat → ((Nat → Int32) ⊕ (Nat → Int64) ⊕ (Nat → UInt32) ⊕ (Nat → UInt64) ⊕ (Nat → Option Nat))} (ht8 : t < 8) (hT : ztys.getD t .int = newarray.typeOf at_) (hcb : componentBytes (newarray.typeOf at_) ≤ 8) (harr : Cond.arrayClass (newarray.typeOf at_) ∈ zG)
    (hmk : ∀ (cA0 : ClassId) (n : Nat), vp_cell cA0 (n, mk n) = arrV cA0 n (fun _ => defaultValue (newarray.typeOf at_))) (hzr : ∀ (base : Nat) (ext : Nat → Nat) (w : zmW) (k n : Nat), (∀ i, w.2.2.2.2 k i = 0) → zRA base ext w k t n (mk n))
    (hRA : ∀ (U : State) (cA0 : ClassId), va_RA U cA0 (newarray.typeOf at_) → U.vm.findClass ("[" ++ (newarray.typeOf at_).toString) = some cA0) (hd : decode cc pc = .ok (.newarray at_, 2)) : zSnd l own cc nL ini pc (zm_newa (pc + 2) (100 + t)) := by
  intro d K hK c c' hpc hf
  unfold zm_newa at hf
  split at hf
  · rename_i z st0 heq
    split at hf
    · cases hf
    rename_i hz0
    cases hnw : zNew c.2.2.2 (100 + t) z.toNat z.toNat with
    | none =>
      rw [hnw] at hf
      cases hf
    | some w' =>
      rw [hnw] at hf
      obtain rfl := Sum.inl.inj (Option.some.inj hf)
      have hnw2 := hnw
      unfold zNew at hnw2
      split at hnw2
      · rename_i hlt
        cases hnw2
        refine ⟨⟨Nat.le_succ _, Nat.le_add_right _ _⟩, ?_⟩
        intro p e R s m args below meth co Q base ext D cA L xs n0 s0 X hin h1 h2 h3 h4 hA H locs ls st hR hS hL hst
        obtain ⟨hx, hb, hml, hown, hts, hKs, hfr, hlo⟩ := X
        dsimp only at h3 h4
        rw [heq] at hst
        obtain ⟨x, k1, rfl, hx2, hst1⟩ := zRS_int hst
        subst hx2
        have hsz : H.size = base + c.2.2.2.1 := hR.2.1
        have hzero := hR.2.2.2.2 c.2.2.2.1 (Nat.le_refl _) hR.2.2.1
        have hK8 := hKs.1.2 t _ (ztl_get ht8)
        rw [hT] at hK8
        rw [hpc]
        refine va_newaK (atype := at_) (N := x.toInt.toNat) hx hb (hts _ harr) rfl hd rfl (fun q => hz0 (by have := zi_lt.mp q; rwa [zi_0] at this)) rfl (by have h8 := hlt.2; calc x.toInt.toNat * componentBytes (newarray.typeOf at_) ≤ 100000 * 8 := Nat.mul_le_mul h8 hcb
              _ ≤ 536870912 := by decide) (by omega) (by omega) hsz (fun H1 cA1 e1 z1 o1 hAr hNm => ?_)
        have hcA : cA1 = cA t := Option.some.inj (hNm.symm.trans (hRA s (cA t) hK8.2))
        subst hcA
        have hat1 : va_at D zcl (base + c.2.2.2.1, .inl (cA t, x.toInt.toNat, mk x.toInt.toNat)) H1 := by
          show H1[base + c.2.2.2.1]? = some (vp_cell _ _)
          rw [hmk]
          exact e1
        have hC : zRC base ext cA (c.2.2.2.1 + 1, c.2.2.2.2.1 + x.toInt.toNat, zupS c.2.2.2.2.2.1 c.2.2.2.1 (100 + t, x.toInt.toNat), c.2.2.2.2.2.2) c.2.2.2.1 (.inl (cA t, x.toInt.toNat, mk x.toInt.toNat)) := by
          refine ⟨t, ht8, by show zupS _ _ _ _ = _; unfold zupS; rw [if_pos rfl], rfl, hzr _ _ _ _ _ (fun i => (hzero.2 i).1)⟩
        have hA2 := hA H1 locs ls (.ref (base + c.2.2.2.1) :: k1) (zRp_new hR hnw hat1 hC (by rw [z1, hsz]) (fun q hq => o1 q (by omega))) ⟨Nat.le_trans hS.1 (by omega), fun q g1 g2 => (o1 q (by have := hS.1; omega)).trans (hS.2.1 q g1 g2), hS.2.2⟩ hL ⟨by show Value.ref _ = Value.ref _; rw [zph_own hR.2.2.1], hst1⟩
        dsimp only at hA2
        have e1 : c.2.2.2.1 + 1 - n0 = c.2.2.2.1 - n0 + 1 := by omega
        have e2 : c.2.2.2.2.1 + x.toInt.toNat - s0 = c.2.2.2.2.1 - s0 + x.toInt.toNat := by omega
        rw [e1, e2] at hA2
        exact hA2
      · cases hnw2
  · cases hf
theorem zs_newi (harr : Cond.arrayClass .int ∈ zG) (hd : decode cc pc = .ok (.newarray .int, 2)) : zSnd l own cc nL ini pc (zm_newa (pc + 2) 100) :=
  zs_newaK (t := 0) (at_ := .int) (mk := fun _ => .inl (fun _ => 0)) (by decide) rfl (by decide) harr (fun cA0 n => rfl) (fun base ext w k n h => ⟨Or.inl rfl, fun j hj => (h _).symm⟩) (fun U cA0 h => h) hd
theorem zs_newl (harr : Cond.arrayClass .long ∈ zG) (hd : decode cc pc = .ok (.newarray .long, 2)) : zSnd l own cc nL ini pc (zm_newa (pc + 2) 101) :=
  zs_newaK (t := 1) (at_ := .long) (mk := fun _ => .inr (.inl (fun _ => 0))) (by decide) rfl (by decide) harr (fun cA0 n => rfl) (fun base ext w k n h => ⟨rfl, fun j hj => (h _).symm⟩) (fun U cA0 h => h) hd
theorem zs_newz (harr : Cond.arrayClass .boolean ∈ zG) (hd : decode cc pc = .ok (.newarray .boolean, 2)) : zSnd l own cc nL ini pc (zm_newa (pc + 2) 102) :=
  zs_newaK (t := 2) (at_ := .boolean) (mk := fun _ => .inl (fun _ => 0)) (by decide) rfl (by decide) harr (fun cA0 n => rfl) (fun base ext w k n h => ⟨Or.inr rfl, fun j hj => (h _).symm⟩) (fun U cA0 h => h) hd
theorem zs_newq {ix t : Nat} {C : String} (ht3 : 3 ≤ t) (ht8 : t < 8) (hE : ztys.getD t .int = .object C) (hAO : ∀ s, zAOs s → va_AO C s) {t1 : Nat} (ht1 : t1 = 100 + t) (hd : decode cc pc = .ok (.anewarray ix, 3)) (hw : Cond.classLink own ix C ∈ zG) : zSnd l own cc nL ini pc (zm_newa (pc + 3) t1) := by
  subst ht1
  intro d K hK c c' hpc hf
  unfold zm_newa at hf
  split at hf
  · rename_i z st0 heq
    split at hf
    · cases hf
    rename_i hz0
    cases hnw : zNew c.2.2.2 (100 + t) z.toNat z.toNat with
    | none =>
      rw [hnw] at hf
      cases hf
    | some w' =>
      rw [hnw] at hf
      obtain rfl := Sum.inl.inj (Option.some.inj hf)
      have hnw2 := hnw
      unfold zNew at hnw2
      split at hnw2
      · rename_i hlt
        cases hnw2
        refine ⟨⟨Nat.le_succ _, Nat.le_add_right _ _⟩, ?_⟩
        intro p e R s m args below meth co Q base ext D cA L xs n0 s0 X hin h1 h2 h3 h4 hA H locs ls st hR hS hL hst
        obtain ⟨hx, hb, hml, hown, hts, hKs, hfr, hlo⟩ := X
        dsimp only at h3 h4
        rw [heq] at hst
        obtain ⟨x, k1, rfl, hx2, hst1⟩ := zRS_int hst
        subst hx2
        have hsz : H.size = base + c.2.2.2.1 := hR.2.1
        have hzero := hR.2.2.2.2 c.2.2.2.1 (Nat.le_refl _) hR.2.2.1
        have hK8 := hKs.1.2 t _ (ztl_get ht8)
        rw [hE] at hK8
        rw [hpc]
        have hnc : x.toNatClampNeg = x.toInt.toNat := rfl
        refine W.anew hx hb hown (hts _ hw) (va_AO.use (hAO s hKs.2.2.1)) rfl hd rfl (fun q => hz0 (by have := zi_lt.mp q; rwa [zi_0] at this)) (by rw [hnc]; omega) (by omega) (by rw [hnc]; omega) (fun cA1 kA comp f1 f2 f3 f4 => ?_)
        obtain ⟨kA2, comp2, -, -, -, hnm⟩ := hK8.2
        have hcA : cA1 = cA t := Option.some.inj (f1.symm.trans hnm)
        subst hcA
        generalize hH1 : H.push ({ cls := cA t, slots := Array.replicate x.toNatClampNeg .null, vm := .none } : Cell) = H1
        have z1 : H1.size = H.size + 1 := by rw [← hH1, Array.size_push]
        have e1 : H1[H.size]? = some (arrV (cA t) x.toNatClampNeg (fun _ => .null)) := by rw [← hH1, Array.getElem?_push_size, ← arrV_new]
        have o1 : ∀ q : Nat, q < H.size → H1[q]? = H[q]? := fun q hq => by rw [← hH1, Array.getElem?_push, if_neg (Nat.ne_of_lt hq)]
        have hat1 : va_at D zcl (base + c.2.2.2.1, .inl (cA t, x.toInt.toNat, .inr (.inr (.inr (.inr (fun _ => none)))))) H1 := by
          show H1[base + c.2.2.2.1]? = some (vp_cell _ _)
          rw [vp_cell_q, ← hsz]
          exact e1
        have hC : zRC base ext cA (c.2.2.2.1 + 1, c.2.2.2.2.1 + x.toInt.toNat, zupS c.2.2.2.2.2.1 c.2.2.2.1 (100 + t, x.toInt.toNat), c.2.2.2.2.2.2) c.2.2.2.1 (.inl (cA t, x.toInt.toNat, .inr (.inr (.inr (.inr (fun _ => none)))))) := by
          refine ⟨t, ht8, by show zupS _ _ _ _ = _; unfold zupS; rw [if_pos rfl], rfl, ht3, fun j hj => ?_⟩
          show none = (c.2.2.2.2.2.2.1 c.2.2.2.1 (j : Int)).map _
          rw [(hzero.2 _).2]
          rfl
        have hA2 := hA H1 locs ls (.ref H.size :: k1) (zRp_new hR hnw hat1 hC (by rw [z1]) (fun q hq => o1 q hq)) ⟨Nat.le_trans hS.1 (by omega), fun q g1 g2 => (o1 q (by have := hS.1; omega)).trans (hS.2.1 q g1 g2), hS.2.2⟩ hL ⟨by show Value.ref _ = Value.ref _; rw [zph_own hR.2.2.1, hsz], hst1⟩
        dsimp only at hA2
        have e1 : c.2.2.2.1 + 1 - n0 = c.2.2.2.1 - n0 + 1 := by omega
        have e2 : c.2.2.2.2.1 + x.toInt.toNat - s0 = c.2.2.2.2.1 - s0 + x.toInt.toNat := by omega
        rw [e1, e2] at hA2
        exact hA2
      · cases hnw2
  · cases hf
theorem zs_obj {ix : Nat} (hd : decode cc pc = .ok (.invokespecial ix, 3)) (hw : Cond.methodLink own ix Lib.objectInit ∈ zG) (hw2 : Cond.instanceMethod Lib.objectInit ∈ zG) (hw3 : Cond.code Lib.objectInit ⟨#[0xb1]⟩ 1 none ∈ zG) : zFl l own cc nL pc (zm_obj (pc + 3)) := by
  intro K c c' hpc hf
  unfold zm_obj at hf
  split at hf
  · rename_i a st0 heq
    split at hf
    · rename_i hst8
      obtain rfl := Sum.inl.inj (Option.some.inj hf)
      refine ⟨rfl, ?_⟩
      intro p e R s m args below meth co Q base ext D cA L xs d cells slots H locs X hR hS ls st hL hst kk
      obtain ⟨hx, hb, hml, hown, hts, hKs, hfr, hlo⟩ := X
      rw [heq] at hst
      obtain ⟨k1, rfl, hst1⟩ := zRS_ref hst
      have hL2 := hL
      obtain ⟨lv, hlv, -, -⟩ := hL2
      refine W.objInit hx hb hown (hts _ hw) (hts _ hw2) (hts _ hw3) rfl (by rw [hml]; exact hlv.1) rfl hd (by omega) ?_ (kk ls k1 hL hst1)
      have := (zRS_cat _ _ hst1).1
      show 2 * 0 + _ + 12 ≤ _
      omega
    · cases hf
  · cases hf
theorem zs_copy {ix : Nat} (hd : decode cc pc = .ok (.invokestatic ix, 3)) (hw : Cond.methodLink own ix arraycopyName ∈ zG) (hw2 : Cond.native arraycopyName ∈ zG) (hw3 : Cond.static arraycopyName ∈ zG) (hw4 : Cond.initialized "java/lang/System" ∈ zG) : zSnd l own cc nL ini pc (zm_copy (pc + 3)) := by
  intro d K hK c c' hpc hf
  unfold zm_copy at hf
  split at hf
  · rename_i n dp a sp a0 st0 heq
    split at hf
    · rename_i hst8
      unfold zCopy at hf
      split at hf
      · rename_i hkd
        obtain ⟨hk0, hk1, ha0, ha, hsp, hdp, hn, hl0, hl1⟩ := hkd
        obtain rfl := Sum.inl.inj (Option.some.inj hf)
        refine ⟨⟨Nat.le_refl _, Nat.le_refl _⟩, ?_⟩
        intro p e R s m args below meth co Q base ext D cA L xs n0 s0 X hin h1 h2 h3 h4 hA H locs ls st hR hS hL hst
        obtain ⟨hx, hb, hml, hown, hts, hKs, hfr, hlo⟩ := X
        rw [heq] at hst
        obtain ⟨xn, k0, rfl, rfl, hst0⟩ := zRS_int hst
        obtain ⟨xd, k1, rfl, rfl, hst1⟩ := zRS_int hst0
        obtain ⟨k2, rfl, hst2⟩ := zRS_ref hst1
        obtain ⟨xsp, k3, rfl, rfl, hst3⟩ := zRS_int hst2
        obtain ⟨k4, rfl, hst4⟩ := zRS_ref hst3
        have hw0 : c.2.2.2.2.2.1 a0 = (100 + 0, (c.2.2.2.2.2.1 a0).2) := Prod.ext hk0 rfl
        have hw1 : c.2.2.2.2.2.1 a = (100 + 0, (c.2.2.2.2.2.1 a).2) := Prod.ext hk1 rfl
        obtain ⟨hax0, -, y0, hat0, hA0⟩ := zRp_arr (t := 0) hR ha0 hw0
        obtain ⟨hax, -, y1, hat1, hA1⟩ := zRp_arr (t := 0) hR ha hw1
        have hcs := (zRS_cat _ _ hst4).1
        have hL2 := hL
        obtain ⟨lv, hlv, -, -⟩ := hL2
        have hnw : nativeFrameWords "java/lang/System" "arraycopy" 5 + 11 ≤ 30 := by decide +kernel
        have nz : ∀ z : Int32, 0 ≤ z.toInt → ¬ z < 0 := fun z h q => by
          have := zi_lt.mp q
          rw [zi_0] at this
          omega
        have cs := zclamp hsp
        have cd := zclamp hdp
        have cn := zclamp hn
        rcases y0 with f | f | f | f | f
        · rcases y1 with g | g | g | g | g
          · rw [hpc, zph_own hax, zph_own hax0]
            refine zW_copy hx hb (by rw [hml]; exact hlv.1.symm) hown (hts _ hw) (hts _ hw2) (hts _ hw3) (hts _ hw4) hKs.1 hS (Nat.le_add_right _ _) hat0 hat1 (nz _ hsp) (nz _ hdp) (nz _ hn) (by omega) (by omega) (by omega) (by omega) hd (fun H1 locs1 hat2 hz oq hS1 => ?_)
            refine hA H1 locs1 ls k4 (zRp_store hR ha rfl rfl (fun b hb i => if_neg hb) (fun b hb i => rfl) (e := .inl (cA 0, _, .inl (va_cpy f g xsp.toNatClampNeg xd.toNatClampNeg xn.toNatClampNeg))) hat2 ⟨0, by decide, hw1, rfl, ⟨Or.inl rfl, fun j hj => ?_⟩⟩ hz oq) hS1 hL hst4
            show (va_cpy f g xsp.toNatClampNeg xd.toNatClampNeg xn.toNatClampNeg j).toInt = (if a = a then zcpy (c.2.2.2.2.2.2.2 a0) (c.2.2.2.2.2.2.2 a) xsp.toInt xd.toInt xn.toInt (j : Int) else _)
            rw [if_pos rfl]
            unfold va_cpy zcpy
            by_cases h : xd.toNatClampNeg ≤ j ∧ j < xd.toNatClampNeg + xn.toNatClampNeg
            · rw [if_pos h, if_pos (by omega), hA0.2 _ (by omega)]
              exact congrArg _ (by omega)
            · rw [if_neg h, if_neg (by omega), hA1.2 _ hj]
          · exact absurd hA1.1 (by decide)
          · exact hA1.elim
          · exact hA1.elim
          · exact absurd hA1.1 (by decide)
        · exact absurd hA0.1 (by decide)
        · exact hA0.elim
        · exact hA0.elim
        · exact absurd hA0.1 (by decide)
      · cases hf
    · cases hf
  · cases hf
end ZN
