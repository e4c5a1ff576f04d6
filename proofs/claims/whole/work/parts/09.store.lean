/-! instructions that write the heap, or make a cell -/
section ZW
variable {p : Program} {l : Launch} {e : Env} {R : Room} {s : State} {m : MethodId} {args : Array Value} {below : List Frame} {meth : Method} {c : Code} {H : Heap} {locs : List Loc} {cells slots : Nat} {Q : State → Prop}
variable {cc : ByteArray} {pc : Nat} {ls : Array Slot} {rest : List Value} {D : va_G} {cA : Nat → ClassId} {aa base : Nat} {own : String}
theorem zW_put (hexec : p.tables.exec = Jvm.exec) (hb : c.code = cc) {ci k index : Nat} (hts : ∀ w ∈ zG, w.before args s = true) (hown : s.vm.findClass own = some m.cls) (hK : va_K D zcl (ztl cA) s) (hci : ci < 13) (hk : k < zN ci) {fs : List Value} (hat : va_at D zcl (aa, .inr (ci, fs)) H) (hS0 : va_S (zA base) s.heap H locs) (hA : base ≤ aa) (hlink : (Cond.fieldLink own index (zC ci) (zT ci k).2.1 (zT ci k).2.2.1).before args s = true) {v : Value} (hfin : (zT ci k).2.2.2 = false ∨ ((zT ci k).2.2.2 = true ∧ meth.name = "<init>" ∧ zC ci = own)) (hn : narrow (zty ci k) v = v) (hfit : fits (zty ci k) v = true) (hl : k < fs.length)
    (hdg : decode cc pc = .ok (.putfield index, 3)) (kk : ∀ (H1 : Heap) (locs1 : List Loc), va_at D zcl (aa, .inr (ci, fs.set k v)) H1 → H1.size = H.size → (∀ q : Nat, q ≠ aa → H1[q]? = H[q]?) → va_S (zA base) s.heap H1 locs1 → W p l e R s m args below meth c H1 locs1 cells slots Q (F0 m (pc + 3) ls rest)) : W p l e R s m args below meth c H locs cells slots Q (F0 m pc ls (v :: .ref aa :: rest)) := by
  have hc := zcl_get hci
  have hin := zlay_in ci hci
  have hd := zty_ok ci hci k hk
  have hap := va_apart (own := own) hts hin (zty ci) (zty_ok ci hci) (znm_ok ci hci) hK hc
  obtain ⟨r, h1, cell, q1, q2, q3, q4⟩ := hat
  have hr : r = (zC ci, zT ci, zN ci) := Option.some.inj (h1.symm.trans hc)
  subst hr
  obtain ⟨hS, hfc, kC, hkC, hkind⟩ := hK.1 ci _ hc
  obtain ⟨cf, kf, fi, f, hi, hsl⟩ := hS k hk
  have hst := (u_facts hfc hkC (u_lays hts hin hk) hi).1
  have hlay := hts _ (hin _ (u_in_lay hk))
  unfold u_lay at hlay
  have fin : ∀ (H' : Heap), H'[aa]? = some (cell.setSlot (D.2 ci k) v) → H'.size = H.size → (∀ q, q ≠ aa → H'[q]? = H[q]?) → W p l e R s m args below meth c H' (locs ++ [⟨aa, D.2 ci k⟩]) cells slots Q (F0 m (pc + 3) ls rest) := fun H' e1 e2 e3 =>
    kk H' _ ⟨_, hc, t_OB.to (V := updV (vp_V fs) k v) ⟨_, e1, q2, q3, t_set q4 hap hk v⟩ (fun j _ => vp_updV_set hl v j)⟩ e2 e3 (hS0.put e2 e3 hA)
  rcases hfin with hfin | ⟨hfin, hin2, hdecl⟩
  · rw [if_neg (by rw [hfin]; decide)] at hlay
    have h6 := u_store hfc hkC hkind hlay hi hd hn hfit
    refine W.putK hexec hb (f := f) ⟨hown, hlink, ⟨_, _, _, hi⟩, hst⟩ (by rw [q2]; exact h6) q1 q3 (by rw [hsl]; exact k2_hasslot (q4 k hk)) rfl rfl hdg fun H' e1 e2 e3 => ?_
    rw [hsl] at e1 ⊢
    exact fin H' e1 e2 e3
  · rw [if_pos hfin] at hlay
    have hcf : m.cls = cf := by
      obtain ⟨_, _, c', _, _, _, -, -, hf', -, -, -, hown2, -⟩ := Cond.laysFinal_spec hlay
      have e1 : c' = cf := by have := hi.symm.trans hf'; simp at this; exact this.1.symm
      rw [show (zT ci k).1 = own from hdecl] at hown2
      rw [← e1]; exact Option.some.inj (hown.symm.trans hown2)
    have h6 := u_fits hfc hkC hkind (Or.inr hlay) hi hd hn hfit
    refine W.putFinK hexec hb hown hlink hi hst hcf hin2 (by rw [q2]; exact h6) q1 q3 (by rw [hsl]; exact k2_hasslot (q4 k hk)) rfl rfl hdg fun H' e1 e2 e3 => ?_
    rw [hsl] at e1 ⊢
    exact fin H' e1 e2 e3
theorem zW_iast (hexec : p.tables.exec = Jvm.exec) (hb : c.code = cc) (hK : va_K D zcl (ztl cA) s) {n : Nat} {f : Nat → Int32} (hat : va_at D zcl (aa, .inl (cA 0, n, .inl f)) H) (hS : va_S (zA base) s.heap H locs) (hA : base ≤ aa) {i x : Int32} (hin : vp_in i n) (hdg : decode cc pc = .ok (.iastore, 1))
    (kk : ∀ (H1 : Heap) (locs1 : List Loc), va_at D zcl (aa, .inl (cA 0, n, .inl (upd f i.toNatClampNeg x))) H1 → H1.size = H.size → (∀ q : Nat, q ≠ aa → H1[q]? = H[q]?) → va_S (zA base) s.heap H1 locs1 → W p l e R s m args below meth c H1 locs1 cells slots Q (F0 m (pc + 1) ls rest)) : W p l e R s m args below meth c H locs cells slots Q (F0 m pc ls (.int x :: .int i :: .ref aa :: rest)) := by
  refine W.iast hexec hb hat ((hK.2 0 _ (ztl_get (by decide))).1 n (fun j => .int (f j))) (fun q => by cases q) (by show ¬ (i < 0 ∨ (arrV _ _ _).slots.size ≤ _); rw [arrV_size]; exact hin) rfl rfl hdg fun H1 e z oq => ?_
  refine kk H1 _ ?_ z oq (hS.put z oq hA)
  show H1[aa]? = some (vp_cell _ _)
  rw [e]
  rw [vp_cell_i, vp_cell_i, arrV_store]
  congr 2
  funext q
  by_cases hq : q = i.toNatClampNeg
  · subst hq
    simp [updV, upd]
  · simp [updV, upd, hq]
theorem zW_zast (hexec : p.tables.exec = Jvm.exec) (hb : c.code = cc) (hK : va_K D zcl (ztl cA) s) {n : Nat} {f : Nat → Int32} (hat : va_at D zcl (aa, .inl (cA 2, n, .inl f)) H) (hS : va_S (zA base) s.heap H locs) (hA : base ≤ aa) {i x : Int32} (hin : vp_in i n) (hdg : decode cc pc = .ok (.bastore, 1))
    (kk : ∀ (H1 : Heap) (locs1 : List Loc), va_at D zcl (aa, .inl (cA 2, n, .inl (upd f i.toNatClampNeg (vp_nar .boolean x)))) H1 → H1.size = H.size → (∀ q : Nat, q ≠ aa → H1[q]? = H[q]?) → va_S (zA base) s.heap H1 locs1 → W p l e R s m args below meth c H1 locs1 cells slots Q (F0 m (pc + 1) ls rest)) : W p l e R s m args below meth c H locs cells slots Q (F0 m pc ls (.int x :: .int i :: .ref aa :: rest)) := by
  refine W.zast hexec hb hat ((hK.2 2 _ (ztl_get (by decide))).1 n (fun j => .int (f j))) (fun q => by cases q) (by show ¬ (i < 0 ∨ (arrV _ _ _).slots.size ≤ _); rw [arrV_size]; exact hin) rfl rfl hdg fun H1 e z oq => ?_
  refine kk H1 _ ?_ z oq (hS.put z oq hA)
  show H1[aa]? = some (vp_cell _ _)
  rw [e]
  rw [vp_cell_i, vp_cell_i, arrV_store]
  congr 2
  funext q
  by_cases hq : q = i.toNatClampNeg
  · subst hq
    simp [updV, upd, vp_nar]
    try rfl
  · simp [updV, upd, hq]
theorem zW_last (hexec : p.tables.exec = Jvm.exec) (hb : c.code = cc) (hK : va_K D zcl (ztl cA) s) {n : Nat} {f : Nat → Int64} (hat : va_at D zcl (aa, .inl (cA 1, n, .inr (.inl f))) H) (hS : va_S (zA base) s.heap H locs) (hA : base ≤ aa) {i : Int32} {x : Int64} (hin : vp_in i n) (hdg : decode cc pc = .ok (.lastore, 1))
    (kk : ∀ (H1 : Heap) (locs1 : List Loc), va_at D zcl (aa, .inl (cA 1, n, .inr (.inl (vp_updL f i.toNatClampNeg x)))) H1 → H1.size = H.size → (∀ q : Nat, q ≠ aa → H1[q]? = H[q]?) → va_S (zA base) s.heap H1 locs1 → W p l e R s m args below meth c H1 locs1 cells slots Q (F0 m (pc + 1) ls rest)) : W p l e R s m args below meth c H locs cells slots Q (F0 m pc ls (.long x :: .int i :: .ref aa :: rest)) := by
  refine W.last hexec hb hat ((hK.2 1 _ (ztl_get (by decide))).1 n (fun j => .long (f j))) (fun q => by cases q) (by show ¬ (i < 0 ∨ (arrV _ _ _).slots.size ≤ _); rw [arrV_size]; exact hin) rfl rfl hdg fun H1 e z oq => ?_
  refine kk H1 _ ?_ z oq (hS.put z oq hA)
  show H1[aa]? = some (vp_cell _ _)
  rw [e]
  rw [vp_cell_l, vp_cell_l, arrV_store]
  congr 2
  funext q
  by_cases hq : q = i.toNatClampNeg
  · subst hq
    simp [updV, vp_updL]
  · simp [updV, vp_updL, hq]
theorem zW_aast (hexec : p.tables.exec = Jvm.exec) (hb : c.code = cc) (hK : va_K D zcl (ztl cA) s) {n t ci v : Nat} {f : Nat → Option Nat} {vs : List Value} (ht8 : t < 8) (hci : ci < 13) (hE : ztys.getD t .int = .object (zC ci)) (hat : va_at D zcl (aa, .inl (cA t, n, .inr (.inr (.inr (.inr f))))) H) (hv : va_at D zcl (v, .inr (ci, vs)) H) (hS : va_S (zA base) s.heap H locs) (hA : base ≤ aa) {i : Int32} (hin : vp_in i n) (hdg : decode cc pc = .ok (.aastore, 1))
    (kk : ∀ (H1 : Heap) (locs1 : List Loc), va_at D zcl (aa, .inl (cA t, n, .inr (.inr (.inr (.inr (va_up f i.toNatClampNeg (some v))))))) H1 → H1.size = H.size → (∀ q : Nat, q ≠ aa → H1[q]? = H[q]?) → va_S (zA base) s.heap H1 locs1 → W p l e R s m args below meth c H1 locs1 cells slots Q (F0 m (pc + 1) ls rest)) : W p l e R s m args below meth c H locs cells slots Q (F0 m pc ls (.ref v :: .int i :: .ref aa :: rest)) := by
  have hlt : i.toNatClampNeg < n := Nat.not_le.mp fun q => hin (Or.inr q)
  have h0 : ¬ i < 0 := fun q => hin (Or.inl q)
  obtain ⟨r', hr', cellV, g1, g2, g3, -⟩ := hv
  have hcls := (hK.1 ci _ (zcl_get hci)).2
  have ht := ztl_get (cA := cA) ht8
  rw [hE] at ht
  obtain ⟨kA, comp, k1, k2, k3, -⟩ := (hK.2 t _ ht).2
  have hcomp : comp = D.1 ci := Option.some.inj (k3.symm.trans hcls.1)
  subst hcomp
  obtain ⟨kC, hkC, -⟩ := hcls.2
  refine W.aast hexec hb hat (fun q h => by cases h) (fun h => by cases h) k1 k2 rfl hkC ⟨h0, by show _ < (arrV _ _ _).slots.size; rw [arrV_size]; exact hlt⟩ g1 (fun q h => by rw [g3] at h; cases h) (by rw [g2]; exact hkC) (by rw [g2]; exact va_assign hcls) rfl rfl hdg fun H1 e z oq => ?_
  refine kk H1 _ ?_ z oq (hS.put z oq hA)
  show H1[aa]? = some (vp_cell _ _)
  rw [e]
  rw [vp_cell_q, vp_cell_q, arrV_store]
  congr 2
  funext q
  by_cases hq : q = i.toNatClampNeg
  · subst hq
    simp [updV, va_up, va_rf]
  · simp [updV, va_up, hq]
end ZW
theorem zup_ne {α : Type} {m : Nat → Int → α} {a b : Nat} {k j : Int} {z : α} (h : b ≠ a) : zup m a k z b j = m b j := by
  unfold zup
  rw [if_neg (fun q => h q.1)]
theorem zup_ne2 {α : Type} {m : Nat → Int → α} {a b : Nat} {k j : Int} {z : α} (h : j ≠ k) : zup m a k z b j = m b j := by
  unfold zup
  rw [if_neg (fun q => h q.2)]
theorem zup_self {α : Type} {m : Nat → Int → α} {a : Nat} {k : Int} {z : α} : zup m a k z a k = z := if_pos ⟨rfl, rfl⟩
theorem zRC_put {base : Nat} {ext : Nat → Nat} {cA : Nat → ClassId} {w w' : zmW} {a ci k : Nat} {fs : List Value} {v : Value} (hs : w'.2.2.1 = w.2.2.1) (hkd : (w.2.2.1 a).1 = ci) (hci : ci < 13) (hlen : fs.length = zN ci) (hk : k < zN ci) (hfs : ∀ j, j < zN ci → ∃ v, fs[j]? = some v ∧ zRF base ext w a ci j v)
    (hm : ∀ j : Int, j ≠ (k : Int) → w'.2.2.2.2 a j = w.2.2.2.2 a j) (hr : ∀ j : Int, j ≠ (k : Int) → w'.2.2.2.1 a j = w.2.2.2.1 a j) (hv : zRF base ext w' a ci k v) : zRC base ext cA w' a (.inr (ci, fs.set k v)) := by
  refine ⟨by rw [hs]; exact hkd, hci, by rw [List.length_set]; exact hlen, fun j hj => ?_⟩
  by_cases h : j = k
  · subst h
    exact ⟨v, List.getElem?_set_self (by omega), hv⟩
  · obtain ⟨v', h1, h2⟩ := hfs j hj
    refine ⟨v', by rw [List.getElem?_set_ne (Ne.symm h)]; exact h1, ?_⟩
    unfold zRF at h2 ⊢
    rw [hm _ (by omega), hr _ (by omega)]
    exact h2
section ZP
variable {l : Launch} {own : String} {cc : ByteArray} {nL pc : Nat} {ini : Bool}
theorem zs_putI {ix ci k : Nat} {kz : Int} (hkz : (k : Int) = kz) (hci : ci < 13) (hk : k < zN ci) (hty : zty ci k = .int) (hfin : (zT ci k).2.2.2 = false) (hd : decode cc pc = .ok (.putfield ix, 3)) (hw : Cond.fieldLink own ix (zC ci) (zT ci k).2.1 (zT ci k).2.2.1 ∈ zG) : zSnd l own cc nL ini pc (zm_putI (pc + 3) ci kz) := by
  intro d K hK c c' hpc hf
  unfold zm_putI at hf
  split at hf
  · rename_i z a st0 heq
    unfold zPI at hf
    split at hf
    · rename_i hkd
      obtain rfl := Sum.inl.inj (Option.some.inj hf)
      refine ⟨⟨Nat.le_refl _, Nat.le_refl _⟩, ?_⟩
      intro p e R s m args below meth co Q base ext D cA L xs n0 s0 X hin h1 h2 h3 h4 hA H locs ls st hR hS hL hst
      obtain ⟨hx, hb, hml, hown, hts, hKs, hfr, hlo⟩ := X
      rw [heq] at hst
      obtain ⟨x, k1, rfl, hx2, hst1⟩ := zRS_int hst
      obtain ⟨k2, rfl, hst2⟩ := zRS_ref hst1
      obtain ⟨ha, hax, fs, hat, hlen, hfs⟩ := zRp_obj hR hci hkd.1
      rw [hpc, zph_own hax]
      subst hkz
      refine zW_put hx hb hts hown hKs.1 hci hk hat hS (Nat.le_add_right _ _) (hts _ hw) (Or.inl hfin) (by rw [hty]; rfl) (by rw [hty]; rfl) (by omega) hd (fun H1 locs1 hat1 hz oq hS1 => ?_)
      refine hA H1 locs1 ls k2 (zRp_store hR ha rfl rfl (fun b hb i => zup_ne hb) (fun b hb i => rfl) hat1 (zRC_put (w := c.2.2.2) rfl hkd.1 hci hlen hk hfs (fun j hj => zup_ne2 hj) (fun j hj => rfl) ?_) hz oq) hS1 hL hst2
      unfold zRF
      rw [if_neg (by unfold zisR; rw [hty]; decide)]
      exact ⟨x, rfl, by rw [hx2]; exact zup_self.symm⟩
    · cases hf
  · cases hf
theorem zs_putZ {ix ci k : Nat} {kz : Int} (hkz : (k : Int) = kz) (hci : ci < 13) (hk : k < zN ci) (hty : zty ci k = .boolean) (hfin : (zT ci k).2.2.2 = false) (hd : decode cc pc = .ok (.putfield ix, 3)) (hw : Cond.fieldLink own ix (zC ci) (zT ci k).2.1 (zT ci k).2.2.1 ∈ zG) : zSnd l own cc nL ini pc (zm_putZ (pc + 3) ci kz) := by
  intro d K hK c c' hpc hf
  unfold zm_putZ at hf
  split at hf
  · rename_i z a st0 heq
    unfold zPZ at hf
    split at hf
    · rename_i hkd0
      obtain ⟨hkd, hz01⟩ := hkd0
      obtain rfl := Sum.inl.inj (Option.some.inj hf)
      refine ⟨⟨Nat.le_refl _, Nat.le_refl _⟩, ?_⟩
      intro p e R s m args below meth co Q base ext D cA L xs n0 s0 X hin h1 h2 h3 h4 hA H locs ls st hR hS hL hst
      obtain ⟨hx, hb, hml, hown, hts, hKs, hfr, hlo⟩ := X
      rw [heq] at hst
      obtain ⟨x, k1, rfl, hx2, hst1⟩ := zRS_int hst
      obtain ⟨k2, rfl, hst2⟩ := zRS_ref hst1
      obtain ⟨ha, hax, fs, hat, hlen, hfs⟩ := zRp_obj hR hci hkd.1
      rw [hpc, zph_own hax]
      subst hkz
      have hx01 : x = 0 ∨ x = 1 := by
        rcases hz01 with q | q
        · left
          exact zi_eq.mpr (by rw [hx2, q]; rfl)
        · right
          exact zi_eq.mpr (by rw [hx2, q]; rfl)
      refine zW_put hx hb hts hown hKs.1 hci hk hat hS (Nat.le_add_right _ _) (hts _ hw) (Or.inl hfin) (by rw [hty]; rcases hx01 with rfl | rfl <;> rfl) (by rw [hty]; rcases hx01 with rfl | rfl <;> rfl) (by omega) hd (fun H1 locs1 hat1 hz oq hS1 => ?_)
      refine hA H1 locs1 ls k2 (zRp_store hR ha rfl rfl (fun b hb i => zup_ne hb) (fun b hb i => rfl) hat1 (zRC_put (w := c.2.2.2) rfl hkd.1 hci hlen hk hfs (fun j hj => zup_ne2 hj) (fun j hj => rfl) ?_) hz oq) hS1 hL hst2
      unfold zRF
      rw [if_neg (by unfold zisR; rw [hty]; decide)]
      exact ⟨x, rfl, by rw [hx2]; exact zup_self.symm⟩
    · cases hf
  · cases hf
theorem zs_putR {ix ci k : Nat} {kz : Int} (hkz : (k : Int) = kz) (hci : ci < 13) (hk : k < zN ci) (hr : zisR ci k = true) (hfin : (zT ci k).2.2.2 = true) (hini : ini = true) (hdecl : zC ci = own) (hd : decode cc pc = .ok (.putfield ix, 3)) (hw : Cond.fieldLink own ix (zC ci) (zT ci k).2.1 (zT ci k).2.2.1 ∈ zG) : zSnd l own cc nL ini pc (zm_putR (pc + 3) ci kz) := by
  intro d K hK c c' hpc hf
  unfold zm_putR at hf
  split at hf
  · rename_i r a st0 heq
    unfold zPR at hf
    split at hf
    · rename_i hkd0
      obtain ⟨hkd, hrn⟩ := hkd0
      obtain rfl := Sum.inl.inj (Option.some.inj hf)
      refine ⟨⟨Nat.le_refl _, Nat.le_refl _⟩, ?_⟩
      intro p e R s m args below meth co Q base ext D cA L xs n0 s0 X hin h1 h2 h3 h4 hA H locs ls st hR hS hL hst
      obtain ⟨hx, hb, hml, hown, hts, hKs, hfr, hlo⟩ := X
      rw [heq] at hst
      obtain ⟨k1, rfl, hst1⟩ := zRS_ref hst
      obtain ⟨k2, rfl, hst2⟩ := zRS_ref hst1
      obtain ⟨ha, hax, fs, hat, hlen, hfs⟩ := zRp_obj hR hci hkd.1
      rw [hpc, zph_own hax]
      subst hkz
      have hnf : narrow (zty ci k) (.ref (zph base ext r)) = .ref (zph base ext r) ∧ fits (zty ci k) (.ref (zph base ext r)) = true := by
        unfold zisR at hr
        cases hq : zty ci k <;> rw [hq] at hr <;> first | (cases hr; done) | exact ⟨rfl, rfl⟩
      refine zW_put hx hb hts hown hKs.1 hci hk hat hS (Nat.le_add_right _ _) (hts _ hw) (Or.inr ⟨hfin, hin hini, hdecl⟩) hnf.1 hnf.2 (by omega) hd (fun H1 locs1 hat1 hz oq hS1 => ?_)
      refine hA H1 locs1 ls k2 (zRp_store hR ha rfl rfl (fun b hb i => rfl) (fun b hb i => zup_ne hb) hat1 (zRC_put (w := c.2.2.2) rfl hkd.1 hci hlen hk hfs (fun j hj => rfl) (fun j hj => zup_ne2 hj) ?_) hz oq) hS1 hL hst2
      unfold zRF
      rw [if_pos hr]
      show _ = (match zup c.2.2.2.2.2.2.1 a (k : Int) (some r) a (k : Int) with | none => Value.null | some r => Value.ref (zph base ext r))
      rw [zup_self]
    · cases hf
  · cases hf
theorem zs_iast (hd : decode cc pc = .ok (.iastore, 1)) : zSnd l own cc nL ini pc (zm_iast (pc + 1)) := by
  intro d K hK c c' hpc hf
  unfold zm_iast at hf
  split at hf
  · rename_i z i a st0 heq
    unfold zSI at hf
    split at hf
    · rename_i hkd0
      obtain ⟨hkd, hi0, hi1, ha⟩ := hkd0
      obtain rfl := Sum.inl.inj (Option.some.inj hf)
      refine ⟨⟨Nat.le_refl _, Nat.le_refl _⟩, ?_⟩
      intro p e R s m args below meth co Q base ext D cA L xs n0 s0 X hin h1 h2 h3 h4 hA H locs ls st hR hS hL hst
      obtain ⟨hx, hb, hml, hown, hts, hKs, hfr, hlo⟩ := X
      rw [heq] at hst
      obtain ⟨x, k0, rfl, hx2, hst0⟩ := zRS_int hst
      obtain ⟨y, k1, rfl, hy, hst1⟩ := zRS_int hst0
      obtain ⟨k2, rfl, hst2⟩ := zRS_ref hst1
      subst hy
      have hc := zclamp hi0
      have hw0 : c.2.2.2.2.2.1 a = (100 + 0, (c.2.2.2.2.2.1 a).2) := Prod.ext hkd rfl
      obtain ⟨hax, -, yy, hat, hAr⟩ := zRp_arr (t := 0) (n := (c.2.2.2.2.2.1 a).2) hR ha hw0
      rcases yy with f | f | f | f | f
      · rw [hpc, zph_own hax]
        refine zW_iast hx hb hKs.1 hat hS (Nat.le_add_right _ _) (zvp_in hi0 hi1) hd (fun H1 locs1 hat1 hz oq hS1 => ?_)
        refine hA H1 locs1 ls k2 (zRp_store hR ha rfl rfl (fun b hb i => zup_ne hb) (fun b hb i => rfl) hat1 ⟨0, by decide, hw0, rfl, ⟨Or.inl rfl, fun j hj => ?_⟩⟩ hz oq) hS1 hL hst2
        show (upd f y.toNatClampNeg x j).toInt = zup c.2.2.2.2.2.2.2 a y.toInt z a (j : Int)
        unfold upd
        by_cases h : j = y.toNatClampNeg
        · rw [if_pos h, h, hc, zup_self]
          exact hx2
        · rw [if_neg h, zup_ne2 (by omega)]
          exact hAr.2 j hj
      · exact absurd hAr.1 (by decide)
      · exact hAr.elim
      · exact hAr.elim
      · exact absurd hAr.1 (by decide)
    · cases hf
  · cases hf
theorem zs_zast (hd : decode cc pc = .ok (.bastore, 1)) : zSnd l own cc nL ini pc (zm_zast (pc + 1)) := by
  intro d K hK c c' hpc hf
  unfold zm_zast at hf
  split at hf
  · rename_i z i a st0 heq
    unfold zSZ at hf
    split at hf
    · rename_i hkd0
      obtain ⟨hz01, hkd, hi0, hi1, ha⟩ := hkd0
      obtain rfl := Sum.inl.inj (Option.some.inj hf)
      refine ⟨⟨Nat.le_refl _, Nat.le_refl _⟩, ?_⟩
      intro p e R s m args below meth co Q base ext D cA L xs n0 s0 X hin h1 h2 h3 h4 hA H locs ls st hR hS hL hst
      obtain ⟨hx, hb, hml, hown, hts, hKs, hfr, hlo⟩ := X
      rw [heq] at hst
      obtain ⟨x, k0, rfl, hx2, hst0⟩ := zRS_int hst
      obtain ⟨y, k1, rfl, hy, hst1⟩ := zRS_int hst0
      obtain ⟨k2, rfl, hst2⟩ := zRS_ref hst1
      subst hy
      have hc := zclamp hi0
      have hw0 : c.2.2.2.2.2.1 a = (100 + 2, (c.2.2.2.2.2.1 a).2) := Prod.ext hkd rfl
      obtain ⟨hax, -, yy, hat, hAr⟩ := zRp_arr (t := 2) (n := (c.2.2.2.2.2.1 a).2) hR ha hw0
      rcases yy with f | f | f | f | f
      · rw [hpc, zph_own hax]
        have hx01 : x = 0 ∨ x = 1 := by
          rcases hz01 with q | q
          · left
            exact zi_eq.mpr (by rw [hx2, q]; rfl)
          · right
            exact zi_eq.mpr (by rw [hx2, q]; rfl)
        refine zW_zast hx hb hKs.1 hat hS (Nat.le_add_right _ _) (zvp_in hi0 hi1) hd (fun H1 locs1 hat1 hz oq hS1 => ?_)
        refine hA H1 locs1 ls k2 (zRp_store hR ha rfl rfl (fun b hb i => zup_ne hb) (fun b hb i => rfl) hat1 ⟨2, by decide, hw0, rfl, ⟨Or.inr rfl, fun j hj => ?_⟩⟩ hz oq) hS1 hL hst2
        show (upd f y.toNatClampNeg (vp_nar .boolean x) j).toInt = zup c.2.2.2.2.2.2.2 a y.toInt z a (j : Int)
        unfold upd
        by_cases h : j = y.toNatClampNeg
        · rw [if_pos h, h, hc, zup_self]
          exact by rw [← hx2]; rcases hx01 with rfl | rfl <;> rfl
        · rw [if_neg h, zup_ne2 (by omega)]
          exact hAr.2 j hj
      · exact absurd hAr.1 (by decide)
      · exact hAr.elim
      · exact hAr.elim
      · exact absurd hAr.1 (by decide)
    · cases hf
  · cases hf
theorem zs_last (hd : decode cc pc = .ok (.lastore, 1)) : zSnd l own cc nL ini pc (zm_last (pc + 1)) := by
  intro d K hK c c' hpc hf
  unfold zm_last at hf
  split at hf
  · rename_i z i a st0 heq
    unfold zSI at hf
    split at hf
    · rename_i hkd0
      obtain ⟨hkd, hi0, hi1, ha⟩ := hkd0
      obtain rfl := Sum.inl.inj (Option.some.inj hf)
      refine ⟨⟨Nat.le_refl _, Nat.le_refl _⟩, ?_⟩
      intro p e R s m args below meth co Q base ext D cA L xs n0 s0 X hin h1 h2 h3 h4 hA H locs ls st hR hS hL hst
      obtain ⟨hx, hb, hml, hown, hts, hKs, hfr, hlo⟩ := X
      rw [heq] at hst
      obtain ⟨x, k0, rfl, hx2, hst0⟩ := zRS_long hst
      obtain ⟨y, k1, rfl, hy, hst1⟩ := zRS_int hst0
      obtain ⟨k2, rfl, hst2⟩ := zRS_ref hst1
      subst hy
      have hc := zclamp hi0
      have hw0 : c.2.2.2.2.2.1 a = (100 + 1, (c.2.2.2.2.2.1 a).2) := Prod.ext hkd rfl
      obtain ⟨hax, -, yy, hat, hAr⟩ := zRp_arr (t := 1) (n := (c.2.2.2.2.2.1 a).2) hR ha hw0
      rcases yy with f | f | f | f | f
      · exact absurd hAr.1 (by decide)
      · rw [hpc, zph_own hax]
        refine zW_last hx hb hKs.1 hat hS (Nat.le_add_right _ _) (zvp_in hi0 hi1) hd (fun H1 locs1 hat1 hz oq hS1 => ?_)
        refine hA H1 locs1 ls k2 (zRp_store hR ha rfl rfl (fun b hb i => zup_ne hb) (fun b hb i => rfl) hat1 ⟨1, by decide, hw0, rfl, ⟨rfl, fun j hj => ?_⟩⟩ hz oq) hS1 hL hst2
        show (vp_updL f y.toNatClampNeg x j).toInt = zup c.2.2.2.2.2.2.2 a y.toInt z a (j : Int)
        unfold vp_updL
        by_cases h : j = y.toNatClampNeg
        · rw [if_pos h, h, hc, zup_self]
          exact hx2
        · rw [if_neg h, zup_ne2 (by omega)]
          exact hAr.2 j hj
      · exact hAr.elim
      · exact hAr.elim
      · exact absurd hAr.1 (by decide)
    · cases hf
  · cases hf
theorem zs_aast {t ci : Nat} (ht3 : 3 ≤ t) (ht8 : t < 8) (hci : ci < 13) (hE : ztys.getD t .int = .object (zC ci)) {t1 : Nat} (ht1 : t1 = 100 + t) (hd : decode cc pc = .ok (.aastore, 1)) : zSnd l own cc nL ini pc (zm_aast (pc + 1) t1 ci) := by
  subst ht1
  intro d K hK c c' hpc hf
  unfold zm_aast at hf
  split at hf
  · rename_i r i a st0 heq
    unfold zSR at hf
    split at hf
    · rename_i hkd0
      obtain ⟨hkd, hi0, hi1, ha, hrn, hrk⟩ := hkd0
      obtain rfl := Sum.inl.inj (Option.some.inj hf)
      refine ⟨⟨Nat.le_refl _, Nat.le_refl _⟩, ?_⟩
      intro p e R s m args below meth co Q base ext D cA L xs n0 s0 X hin h1 h2 h3 h4 hA H locs ls st hR hS hL hst
      obtain ⟨hx, hb, hml, hown, hts, hKs, hfr, hlo⟩ := X
      rw [heq] at hst
      obtain ⟨k0, rfl, hst0⟩ := zRS_ref hst
      obtain ⟨y, k1, rfl, hy, hst1⟩ := zRS_int hst0
      obtain ⟨k2, rfl, hst2⟩ := zRS_ref hst1
      subst hy
      have hc := zclamp hi0
      have hw0 : c.2.2.2.2.2.1 a = (100 + t, (c.2.2.2.2.2.1 a).2) := Prod.ext hkd rfl
      obtain ⟨hax, -, yy, hat, hAr⟩ := zRp_arr (t := t) (n := (c.2.2.2.2.2.1 a).2) hR ha hw0
      obtain ⟨-, hrx, vs, hrat, -⟩ := zRp_obj hR hci hrk
      rcases yy with f | f | f | f | f
      · exact absurd hAr.1 (by omega)
      · exact absurd hAr.1 (by omega)
      · exact hAr.elim
      · exact hAr.elim
      · rw [hpc, zph_own hax, zph_own hrx]
        refine zW_aast hx hb hKs.1 ht8 hci hE hat hrat hS (Nat.le_add_right _ _) (zvp_in hi0 hi1) hd (fun H1 locs1 hat1 hz oq hS1 => ?_)
        refine hA H1 locs1 ls k2 (zRp_store hR ha rfl rfl (fun b hb i => rfl) (fun b hb i => zup_ne hb) hat1 ⟨t, ht8, hw0, rfl, ⟨ht3, fun j hj => ?_⟩⟩ hz oq) hS1 hL hst2
        show va_up f y.toNatClampNeg (some (base + r)) j = (zup c.2.2.2.2.2.2.1 a y.toInt (some r) a (j : Int)).map (zph base ext)
        by_cases h : j = y.toNatClampNeg
        · rw [h, va_up_self, hc, zup_self]
          show _ = some (zph base ext r)
          rw [zph_own hrx]
        · rw [va_up_ne _ _ h, zup_ne2 (by omega)]
          exact hAr.2 j hj
    · cases hf
  · cases hf
theorem zdef_ok : ∀ ci, ci < 13 → ∀ j, j < zN ci → defaultValue (zty ci j) = if zisR ci j = true then Value.null else Value.int 0 := by decide +kernel
theorem zs_new {ix ci N : Nat} (hci : ci < 13) (hN : N = zN ci) (hd : decode cc pc = .ok (.new ix, 3)) (hw : Cond.classLink own ix (zC ci) ∈ zG) (hw2 : Cond.instantiable (zC ci) N ∈ zG) (hw3 : Cond.initialized (zC ci) ∈ zG) : zSnd l own cc nL ini pc (zm_new (pc + 3) ci N) := by
  subst hN
  intro d K hK c c' hpc hf
  unfold zm_new at hf
  cases hnw : zNew c.2.2.2 ci 0 (zN ci) with
  | none =>
    rw [hnw] at hf
    cases hf
  | some w' =>
    rw [hnw] at hf
    obtain rfl := Sum.inl.inj (Option.some.inj hf)
    have hnw2 := hnw
    unfold zNew at hnw2
    split at hnw2
    · rename_i hlt
      cases hnw2
      refine ⟨⟨Nat.le_succ _, Nat.le_add_right _ _⟩, ?_⟩
      intro p e R s m args below meth co Q base ext D cA L xs n0 s0 X hin h1 h2 h3 h4 hA H locs ls st hR hS hL hst
      obtain ⟨hx, hb, hml, hown, hts, hKs, hfr, hlo⟩ := X
      dsimp only at h3 h4
      have hKn := hKs.1.1 ci _ (zcl_get hci)
      have hsz : H.size = base + c.2.2.2.1 := hR.2.1
      have hzero := hR.2.2.2.2 c.2.2.2.1 (Nat.le_refl _) hR.2.2.1
      rw [hpc]
      refine W.newcK hx hb hown (hts _ hw) (hts _ hw2) (hts _ hw3) rfl hd (by omega) (by omega) hKn.2.1 hsz (fun H1 kC hkC e1 z1 o1 => ?_)
      have hat1 : va_at D zcl (base + c.2.2.2.1, .inr (ci, (List.range (zN ci)).map fun k => defaultValue (zty ci k))) H1 := by
        refine ⟨_, zcl_get hci, (u_born (zty ci) hts (zlay_in ci hci) hKn hkC e1 (zty_ok ci hci)).to (fun j hj => ?_)⟩
        unfold vp_V
        rw [List.getD_eq_getElem?_getD, List.getElem?_map, List.getElem?_range hj]
        rfl
      have hC : zRC base ext cA (c.2.2.2.1 + 1, c.2.2.2.2.1 + zN ci, zupS c.2.2.2.2.2.1 c.2.2.2.1 (ci, 0), c.2.2.2.2.2.2) c.2.2.2.1 (.inr (ci, (List.range (zN ci)).map fun k => defaultValue (zty ci k))) := by
        refine ⟨by show (zupS _ _ _ _).1 = ci; unfold zupS; rw [if_pos rfl], hci, by simp, fun j hj => ?_⟩
        refine ⟨defaultValue (zty ci j), by rw [List.getElem?_map, List.getElem?_range hj]; rfl, ?_⟩
        unfold zRF
        dsimp only
        rw [(hzero.2 _).1, (hzero.2 _).2, zdef_ok ci hci j hj]
        by_cases g : zisR ci j = true
        · rw [if_pos g, if_pos g]
        · rw [if_neg g, if_neg g]
          exact ⟨0, rfl, rfl⟩
      have hA2 := hA H1 locs ls (.ref (base + c.2.2.2.1) :: st) (zRp_new hR hnw hat1 hC (by rw [z1, hsz]) (fun q hq => o1 q (by omega))) ⟨Nat.le_trans hS.1 (by omega), fun q g1 g2 => (o1 q (by have := hS.1; omega)).trans (hS.2.1 q g1 g2), hS.2.2⟩ hL ⟨by show Value.ref _ = Value.ref _; rw [zph_own hR.2.2.1], hst⟩
      dsimp only at hA2
      have e1 : c.2.2.2.1 + 1 - n0 = c.2.2.2.1 - n0 + 1 := by omega
      have e2 : c.2.2.2.2.1 + zN ci - s0 = c.2.2.2.2.1 - s0 + zN ci := by omega
      rw [e1, e2] at hA2
      exact hA2
    · cases hnw2
end ZP
