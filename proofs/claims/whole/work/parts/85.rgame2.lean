/-! games of the reference: played out -/
section ZR
variable {L : Nat} {m : Nat → Int → Int} (d : Nat)
theorem zbd_ap {l v : Int} (hv : 0 ≤ v ∧ v < 4096) : zbd (yApM m l v) l = yPut (zbd m l) (v / 64) (v % 64) := by
  rw [← zbd_putM ⟨by omega, by omega⟩ ⟨by omega, by omega⟩]
  funext s
  unfold yApM zbd
  rw [zup_ne (by decide)]
theorem yApM_ne {l v : Int} {x : Nat} (h1 : x ≠ 105) (h2 : x ≠ 106) : yApM m l v x = m x := by
  unfold yApM
  funext j
  rw [zup_ne h2, yPutM_ne h1]
theorem yApM_fr {M : Nat → Int → Int} {v : Int} (hv : 0 ≤ v ∧ v < 4096) (h : yFq yPgm m M) : yFq yPgm m (yApM M 1 v) := by
  unfold yApM yPutM
  exact yFq_up (yFq_up (yFq_up h (by unfold yPgm; omega)) (by unfold yPgm; omega)) (by unfold yPgm; omega)
theorem zk_288g {w : List Int} (hw : yRt m 2 w) (v : Int) (h12 : (yGa w).length ≤ 12) (h60 : ∀ k, k ≤ (yGa w).length → 0 ≤ ySp (yGa w) k ∧ ySp (yGa w) k ≤ 60) : ∀ (k i : Nat) (M : Nat → Int → Int) (b : Int → Int) (c : Int) (o3 o4 o5 : Option zmV), i + k = (yGa w).length → yFq yPgm m M → M 98 27 = (yGa w).length → (k ≠ 0 → yGa w = yPcs w ∧ ∀ j : Nat, j ≤ (yPcs w).length → M 114 j = yOff (yPcs w) j) → M 98 30 = -1 → M 98 31 = i → M 98 32 = ySp (yGa w) i → M 98 33 = yFb (yGa w) v i → yPu b c → yAg (zbd M 1) b → M 106 1 = c → ∃ m', zmE (zmD zP (d+7)) zc_288 (32, [some (zr 98), some (zi v), some (zi i), o3, o4, o5], [], zW L M) = some (none, zW L m') ∧ yFq yPgm m m' ∧ m' 98 31 = i + (yGo ((yGa w).drop i) b c).length ∧ m' 98 30 = (if i + (yGo ((yGa w).drop i) b c).length < (yGa w).length then ((i + (yGo ((yGa w).drop i) b c).length : Nat) : Int) else -1) ∧ m' 98 32 = ySp (yGa w) (i + (yGo ((yGa w).drop i) b c).length) ∧ m' 98 33 = yFb (yGa w) v (i + (yGo ((yGa w).drop i) b c).length) ∧ (∀ j : Nat, j < i → m' 115 j = M 115 j) ∧ ∀ j : Nat, j < (yGo ((yGa w).drop i) b c).length → m' 115 ((i + j : Nat) : Int) = (yGo ((yGa w).drop i) b c).getD j 0 := by
  intro k
  induction k with
  | zero =>
    intro i M b c o3 o4 o5 hi hF h27 hk h30 h31 h32 h33 hp hb hc
    rw [List.drop_eq_nil_of_le (by omega), zb_288_32, zgi_98, zbs, h27, if_neg (by omega)]
    have e0 : (yGo [] b c).length = 0 := rfl
    rw [e0, Nat.add_zero, if_neg (by omega)]
    exact ⟨M, rfl, hF, by rw [h31]; show (i : Int) = i + ((0 : Nat) : Int); omega, h30, h32, h33, fun _ _ => rfl, fun j hj => absurd hj (Nat.not_lt_zero j)⟩
  | succ k ih =>
    intro i M b c o3 o4 o5 hi hF h27 hk h30 h31 h32 h33 hp hb hc
    obtain ⟨hps, hst⟩ := hk (Nat.succ_ne_zero k)
    have hdrop : (yGa w).drop i = (yGa w).getD i [] :: (yGa w).drop (i + 1) := by
      rw [List.drop_eq_getElem_cons (show i < (yGa w).length by omega), List.getD_eq_getElem?_getD, List.getElem?_eq_getElem (show i < (yGa w).length by omega)]
      rfl
    have hrun := yGa_run (w := w) i (by omega)
    have hpi := hp
    obtain ⟨hpB, -⟩ := yPu_cg (yAg_sym hb) hp
    obtain ⟨M1, r1, r2, r3⟩ := yr_232 (L := L) (m := M) (d + 1) 1 (by decide) hpB (by rw [hc]; exact hp.2.2.2)
    have e1 : yMv (zbd M 1) (M 106 1) = yMv b c := by rw [hc, yMv_cg hb]
    rw [e1] at r3
    have q1 : ∀ j, M1 114 j = M 114 j := fun j => r2 114 j (by unfold yPm; omega)
    have F1 : yFq yPgm m M1 := yFq_tr hF (yFq_wd r2 fun x j q => by unfold yPm at q; unfold yPgm; omega)
    obtain ⟨M2, s1, s2, s3⟩ := zk_289 (L := L) (m := M1) (d + 2) (yRt_fr hw F1 yPgm_text) (i := i) (by rw [← hps]; omega) (by rw [← hps]; exact h12) (fun j hj => by rw [q1, hst j hj]) (by rw [← hps]; exact hrun)
    rw [← hps] at s1 s3
    have F2 : yFq yPgm m M2 := yFq_tr F1 (yFq_wd s2 fun x j q => by unfold yS5 at q; unfold yPgm; omega)
    have ez : zbd M2 1 = zbd M 1 := by
      funext s
      unfold zbd
      rw [s2 105 _ (by unfold yS5; omega), r2 105 _ (by unfold yPm; omega)]
    have hb2 : yAg (zbd M2 1) b := by rw [ez]; exact hb
    have r3' : yRm M2 1 (yMv b c) := yRm_fr r3 s2 fun j => ⟨fun q => absurd q.1 (by decide), fun q => absurd q.1 (by decide)⟩
    have hok : yOkv b (yMv b c) := yPu_ok hp
    have hok2 : yOkv (zbd M2 1) (yMv b c) := yOkv_cg (yAg_sym hb2) hok
    have hB2 : zOkB (zbd M2 1) := by rw [ez]; exact hpB
    have hfl : (yMv b c).filter (yFw M2 (zbd M2 1)) = (yMv b c).filter (yMean b ((yGa w).getD i [])) := by
      apply List.filter_congr
      intro x hx
      obtain ⟨x1, x2, x3⟩ := hok x hx
      have hfit : yFit9 M2 (zbd M2 1) x ↔ yFits ((yGa w).getD i []) (b (x / 64) % 8 - 1) x := by
        unfold yFit9
        rw [hb2 (x / 64) (by omega) (by omega)]
        exact s3 _ _ ⟨by omega, by omega⟩ x1
      unfold yFw yMean
      rw [yT_c hfit]
    have g98 : ∀ j, ¬ (13 ≤ j ∧ j ≤ 17) → M2 98 j = M 98 j := fun j hj => by rw [s2 98 j (by unfold yS5; omega), r2 98 j (by unfold yPm; omega)]
    have g15 : ∀ j, M2 115 j = M 115 j := fun j => by rw [s2 115 j (by unfold yS5; omega), r2 115 j (by unfold yPm; omega)]
    have g14 : ∀ j, M2 114 j = M 114 j := fun j => by rw [s2 114 j (by unfold yS5; omega), q1 j]
    have g06 : M2 106 1 = c := by rw [s2 106 1 (by unfold yS5; omega), r2 106 1 (by unfold yPm; omega), hc]
    rw [zb_288_32, zgi_98, zbs, h27, if_pos (by omega), zgi_98, zbs, h30, if_pos rfl, zcv_98, r1, zbs, zmG_n, zb_288_53, zcv_98, s1, zbs, zmG_v, zb_288_58, zcv_98, zk_257 (d + 5) 1 (by decide) r3' hok2 hB2, zbs, zmG_v, zb_288_64, List.countP_eq_length_filter, hfl, hdrop]
    generalize hpp : (yGa w).getD i [] = p at *
    by_cases g : ((yMv b c).filter (yMean b p)).length = 1
    · obtain ⟨v', hv⟩ := List.length_eq_one_iff.mp g
      have hvm : v' ∈ yMv b c := (List.mem_filter.mp (by rw [hv]; exact List.mem_singleton.mpr rfl : v' ∈ (yMv b c).filter (yMean b p))).1
      obtain ⟨v1, v2⟩ := yMv_go hvm
      have last := zk_288f (L := L) d r3' hok2 hB2 v i p.length (yMv b c).length 0 (by omega)
      rw [hfl, hv, List.take_zero, List.filter_nil] at last
      have last' : zmE (zmD zP (d + 7)) zc_288 (82, [some (zr 98), some (zi v), some (zi i), some (zi p.length), some (zi (-1)), some (zi 0)], [], zW L M2) = _ := last
      have hlast : ([v'] : List Int).getLastD (-1) = v' := rfl
      have hone : ((([v'] : List Int).length : Nat) : Int) = 1 := rfl
      have hN : i < (yGa w).length := by omega
      have t1 := h60 i (by omega)
      have t2 := h60 (i + 1) (by omega)
      have t3 := ySp_s (yGa w) i (by omega)
      rw [hpp] at t3
      rw [hv, if_pos hone, last', hlast, zb_288_82, zgr_98_12, zbs, zai_108 (by decide) (by decide), zbs, r3'.1, if_neg (by omega), zgr_98_29, zbs, zgi_98, zbs, g98 31 (by omega), h31, zsi_115 (by omega) (by omega), zbs]
      have F3 : yFq yPgm m (zup M2 115 i v') := yFq_up F2 (by unfold yPgm; omega)
      have ez3 : zbd (zup M2 115 i v') 1 = zbd M2 1 := by
        funext s
        unfold zbd
        rw [zup_ne (by decide)]
      have g063 : zup M2 115 i v' 106 1 = c := (zup_ne (by decide)).trans g06
      have g983 : ∀ j, zup M2 115 i v' 98 j = M2 98 j := fun j => zup_ne (by decide)
      have g143 : ∀ j, zup M2 115 i v' 114 j = M2 114 j := fun j => zup_ne (by decide)
      have g15a : zup M2 115 i v' 115 i = v' := zup_self
      have g15b : ∀ j : Nat, j < i → zup M2 115 i v' 115 j = M 115 j := fun j hj => by rw [zup_ne2 (by omega), g15]
      generalize zup M2 115 i v' = M3 at *
      have F4 := yApM_fr (m := m) (M := M3) v1 F3
      have g4 : ∀ x, x ≠ 105 → x ≠ 106 → yApM M3 1 v' x = M3 x := fun x x1 x2 => yApM_ne x1 x2
      have ez4 : zbd (yApM M3 1 v') 1 = yPut (zbd M3 1) (v' / 64) (v' % 64) := zbd_ap v1
      have g064 : yApM M3 1 v' 106 1 = 8 - c := by
        unfold yApM
        rw [zup_self, g063]
      rw [zcv_98, zk_248 (d + 5) 1 v' (by decide) v1 (by rw [ez3]; exact hB2) (by rw [g063]; exact hp.2.2.2), zbs, zmG_n, zb_288_154]
      generalize yApM M3 1 v' = M4 at *
      have g984 : ∀ j, ¬ (13 ≤ j ∧ j ≤ 17) → M4 98 j = M 98 j := fun j hj => by rw [g4 98 (by decide) (by decide), g983, g98 j hj]
      rw [zgi_98, zbs, g984 31 (by omega), h31, w32_of (z := (i : Int) + 1) (by omega) (by omega), zpi_98, zbs, zgi_98, zbs, zup_ne2 (by decide), g984 32 (by omega), h32, ← t3, w32_of (z := ySp (yGa w) (i + 1)) (by omega) (by omega), zpi_98, zbs, zgi_98, zbs, zup_ne2 (by decide), zup_ne2 (by decide), g984 33 (by omega), h33]
      have F5 : yFq yPgm m (zup (zup M4 98 31 (i + 1)) 98 32 (ySp (yGa w) (i + 1))) := yFq_up (yFq_up F4 (by unfold yPgm; omega)) (by unfold yPgm; omega)
      have a31 : zup (zup M4 98 31 (i + 1)) 98 32 (ySp (yGa w) (i + 1)) 98 31 = ((i + 1 : Nat) : Int) := (zup_ne2 (by decide)).trans zup_self
      have a32 : zup (zup M4 98 31 (i + 1)) 98 32 (ySp (yGa w) (i + 1)) 98 32 = ySp (yGa w) (i + 1) := zup_self
      have a98 : ∀ j, j ≠ 31 → j ≠ 32 → zup (zup M4 98 31 (i + 1)) 98 32 (ySp (yGa w) (i + 1)) 98 j = M4 98 j := fun j j1 j2 => by rw [zup_ne2 j2, zup_ne2 j1]
      have ax : ∀ x, x ≠ 98 → zup (zup M4 98 31 (i + 1)) 98 32 (ySp (yGa w) (i + 1)) x = M4 x := fun x hx => by
        funext j
        rw [zup_ne hx, zup_ne hx]
      generalize zup (zup M4 98 31 (i + 1)) 98 32 (ySp (yGa w) (i + 1)) = M5 at *
      have fin : ∀ (x3 : Int) (o4 o5 : Option zmV), zmE (zmD zP (d+7)) zc_288 (202, [some (zr 98), some (zi v), some (zi i), some (zi x3), o4, o5], [], zW L ((zup M5 98 33 (yFb (yGa w) v (i + 1))))) = zmE (zmD zP (d+7)) zc_288 (32, [some (zr 98), some (zi v), some (zi (((i + 1 : Nat) : Int))), some (zi x3), o4, o5], [], zW L ((zup M5 98 33 (yFb (yGa w) v (i + 1))))) := fun x3 o4 o5 => by
        rw [zb_288_202, w32_of (z := (i : Int) + 1) (by omega) (by omega)]
        rfl
      have b98 : ∀ j, j ≠ 33 → zup M5 98 33 (yFb (yGa w) v (i + 1)) 98 j = M5 98 j := fun j j1 => zup_ne2 j1
      have bx : ∀ x, x ≠ 98 → zup M5 98 33 (yFb (yGa w) v (i + 1)) x = M5 x := fun x hx => by
        funext j
        rw [zup_ne hx]
      have ez6 : zbd (zup M5 98 33 (yFb (yGa w) v (i + 1))) 1 = zbd M4 1 := by
        unfold zbd
        rw [bx 105 (by decide), ax 105 (by decide)]
      obtain ⟨m', u1, u2, u3, u4, u5, u6, u7, u8⟩ := ih (i + 1) (zup M5 98 33 (yFb (yGa w) v (i + 1))) (yPut b (v' / 64) (v' % 64)) (8 - c) (some (zi p.length)) (some (zi v')) (some (zi (yMv b c).length)) (by omega) (yFq_up F5 (by unfold yPgm; omega)) (by rw [b98 27 (by decide), a98 27 (by decide) (by decide), g984 27 (by omega), h27]) (fun _ => ⟨hps, fun j hj => by rw [bx 114 (by decide), ax 114 (by decide), g4 114 (by decide) (by decide), g143, g14, hst j hj]⟩) (by rw [b98 30 (by decide), a98 30 (by decide) (by decide), g984 30 (by omega), h30]) (by rw [b98 31 (by decide), a31]) (by rw [b98 32 (by decide), a32]) zup_self (yPu_put hp ⟨by omega, by omega⟩) (by
        rw [ez6, ez4, ez3]
        exact yPut_cg hb2 ⟨by omega, by omega⟩) (by rw [bx 106 (by decide), ax 106 (by decide), g064])
      have c15 : ∀ j, zup M5 98 33 (yFb (yGa w) v (i + 1)) 115 j = M3 115 j := fun j => by rw [bx 115 (by decide), ax 115 (by decide), g4 115 (by decide) (by decide)]
      rw [yGo_one hv, List.length_cons]
      rw [show i + 1 + (yGo ((yGa w).drop (i + 1)) (yPut b (v' / 64) (v' % 64)) (8 - c)).length = i + ((yGo ((yGa w).drop (i + 1)) (yPut b (v' / 64) (v' % 64)) (8 - c)).length + 1) by omega] at u4 u5 u6
      refine ⟨m', ?_, u2, by rw [u3]; omega, u4, u5, u6, fun j hj => ?_, fun j hj => ?_⟩
      · have e33 : yFb (yGa w) v (i + 1) = if yFb (yGa w) v i = -1 then (if v < ySp (yGa w) (i + 1) then (i : Int) else -1) else yFb (yGa w) v i := rfl
        by_cases k1 : yFb (yGa w) v i = -1
        · rw [if_pos k1] at e33
          rw [if_pos k1, zgi_98, zbs, a32]
          by_cases k2 : v < ySp (yGa w) (i + 1)
          · rw [if_pos k2] at e33
            rw [if_pos k2, zb_288_199, zpi_98, zbs, ← u1, ← fin, e33]
          · rw [if_neg k2] at e33
            rw [if_neg k2, zb_288_195, zgi_98, zbs, a98 33 (by decide) (by decide), g984 33 (by omega), h33, k1, zb_288_199, zpi_98, zbs, ← u1, ← fin, e33]
        · rw [if_neg k1] at e33
          rw [if_neg k1, zb_288_195, zgi_98, zbs, a98 33 (by decide) (by decide), g984 33 (by omega), h33, zb_288_199, zpi_98, zbs, ← u1, ← fin, e33]
      · rw [u7 j (by omega), c15, g15b j hj]
      · cases j with
        | zero =>
          rw [Nat.add_zero, u7 i (by omega), c15, g15a]
          rfl
        | succ j =>
          rw [show i + (j + 1) = i + 1 + j by omega]
          exact u8 j (Nat.lt_of_succ_lt_succ hj)
    · rw [if_neg (by omega), zpi_98, zbs, zb_288_202, w32_of (z := (i : Int) + 1) (by omega) (by omega), zb_288_32, zgi_98, zbs, zup_ne2 (by decide), g98 27 (by omega), h27, yGo_no g]
      have z0 : ([] : List Int).length = 0 := rfl
      rw [z0, Nat.add_zero]
      have F3 : yFq yPgm m (zup M2 98 30 i) := yFq_up F2 (by unfold yPgm; omega)
      refine ⟨_, ?_, F3, ?_, by rw [zup_self, if_pos (by omega)]; rfl, ?_, ?_, fun j hj => ?_, fun j hj => absurd hj (Nat.not_lt_zero j)⟩
      · by_cases k1 : (i : Int) + 1 < (yGa w).length
        · rw [if_pos k1, zgi_98, zbs, zup_self, if_neg (by omega)]
        · rw [if_neg k1]
      · rw [zup_ne2 (by decide), g98 31 (by omega), h31]
        show (i : Int) = i + ((0 : Nat) : Int)
        omega
      · rw [zup_ne2 (by decide), g98 32 (by omega), h32]
        rfl
      · rw [zup_ne2 (by decide), g98 33 (by omega), h33]
        rfl
      · rw [zup_ne (by decide), g15]
end ZR
