/-! reaches, goesOn, mayGo of the reference -/
noncomputable def yFreeTo (b : Int → Int) (f t : Int) : Prop := zFree b f (zSt f t) (zNs f t)
def yReach (b : Int → Int) (f t : Int) : Prop :=
  (b f % 8 = 1 ∧ zAc f t = 1 ∧ zAl f t = if 8 < b f then -1 else 1) ∨ (b f % 8 = 2 ∧ zAc f t * zamt (zAl f t) = 2) ∨ (b f % 8 = 3 ∧ zAc f t = zamt (zAl f t) ∧ 0 < zAc f t ∧ yFreeTo b f t) ∨ (b f % 8 = 4 ∧ zAc f t * zAl f t = 0 ∧ f ≠ t ∧ yFreeTo b f t) ∨ (b f % 8 = 5 ∧ f ≠ t ∧ (zAc f t * zAl f t = 0 ∨ zAc f t = zamt (zAl f t)) ∧ yFreeTo b f t) ∨ (b f % 8 = 6 ∧ f ≠ t ∧ zAc f t < 2 ∧ zamt (zAl f t) < 2)
theorem zmulb {a b : Int} (h : 0 ≤ a ∧ a ≤ 7) (h2 : -7 ≤ b ∧ b ≤ 7) : -49 ≤ a * b ∧ a * b ≤ 49 := by
  have h3 : a = 0 ∨ a = 1 ∨ a = 2 ∨ a = 3 ∨ a = 4 ∨ a = 5 ∨ a = 6 ∨ a = 7 := by omega
  rcases h3 with h3 | h3 | h3 | h3 | h3 | h3 | h3 | h3 <;> subst h3 <;> omega
theorem zamt_b {v : Int} (h : -7 ≤ v ∧ v ≤ 7) : 0 ≤ zamt v ∧ zamt v ≤ 7 ∧ (zamt v = 0 ↔ v = 0) := by
  unfold zamt
  split <;> omega
section ZR
variable {L : Nat} {m : Nat → Int → Int} (d : Nat)
theorem zk_237 (l f t : Int) (hl : 0 ≤ l ∧ l < 4) (hf : 0 ≤ f ∧ f < 64) (ht : 0 ≤ t ∧ t < 64) (hB : zOkB (zbd m l)) : zmD zP (d + 3) 237 [zr 98, zi l, zi f, zi t] (zW L m) = some (some (zi (yT (yReach (zbd m l) f t))), zW L m) := by
  have c1 : -7 ≤ t % 8 - f % 8 ∧ t % 8 - f % 8 ≤ 7 := by omega
  have c2 : -7 ≤ t / 8 - f / 8 ∧ t / 8 - f / 8 ≤ 7 := by omega
  have a1 := zamt_b c1
  have a2 := zamt_b c2
  have hb := hB f hf.1 hf.2
  rw [zen_237, zb_237_0, zgr_98_8, zbs, w32_of (z := 64 * l) (by omega) (by omega), w32_of (z := 64 * l + f) (by omega) (by omega), zai_105 (by omega) (by omega), zbs, z_rem_of ht.1 (by omega) (by decide) (by decide), z_rem_of hf.1 (by omega) (by decide) (by decide), w32_of (z := t % 8 - f % 8) (by omega) (by omega), zk_238 _ _ (by omega) (by omega), zbs, zmG_v, zb_237_25, z_div_of ht.1 (by omega) (by decide), z_div_of hf.1 (by omega) (by decide), w32_of (by omega) (by omega)]
  have e1 : m 105 (64 * l + f) = zbd m l f := rfl
  have e2 : zamt (t % 8 - f % 8) = zAc f t := rfl
  have e3 : t / 8 - f / 8 = zAl f t := rfl
  rw [e1, e2, e3]
  rw [e2] at a1
  rw [e3] at a2 c2
  have p1 := zmulb ⟨a1.1, a1.2.1⟩ c2
  have p2 := zmulb ⟨a1.1, a1.2.1⟩ ⟨by omega, a2.2.1⟩
  have fr : ∀ nx st, zLine f t → (zcv (zmD zP (d + 2)) 239 12 98 [zr 98, zi l, zi f, zi t] (zW L m)).bind (fun r => zmG (zmD zP (d + 2)) zc_237 (zafter nx [some (zr 98), some (zi l), some (zi f), some (zi t), some (zi (zbd m l f)), some (zi (zAc f t)), some (zi (zAl f t))] st true r)) = zmE (zmD zP (d + 2)) zc_237 (nx, [some (zr 98), some (zi l), some (zi f), some (zi t), some (zi (zbd m l f)), some (zi (zAc f t)), some (zi (zAl f t))], zi (yT (yFreeTo (zbd m l) f t)) :: st, zW L m) := fun nx st h => by
    rw [zcv_98, zk_239 d l f t hl hf ht h, zbs, zmG_v]
    rfl
  have fin : ∀ q : Prop, (if yT q = 0 then some (some (zi 0), zW L m) else some (some (zi 1), zW L m)) = some (some (zi (yT q)), zW L m) := fun q => by
    by_cases g : q
    · rw [yT_pos g]
      rfl
    · rw [yT_neg g]
      rfl
  rw [zb_237_38, z_rem_of hb.1 (by omega) (by decide) (by decide)]
  by_cases k1 : zbd m l f % 8 = 1
  · rw [if_pos k1]
    by_cases g : zAc f t = 1
    · rw [if_pos g]
      by_cases g2 : 8 < zbd m l f
      · rw [if_pos g2, zb_237_100]
        by_cases g3 : zAl f t = -1
        · rw [if_pos g3, yT_pos (.inl ⟨k1, g, by rw [if_pos g2]; exact g3⟩)]
        · rw [if_neg g3, yT_neg]
          rintro (⟨-, -, q⟩ | ⟨q, -⟩ | ⟨q, -⟩ | ⟨q, -⟩ | ⟨q, -⟩ | ⟨q, -⟩) <;> first | omega | (rw [if_pos g2] at q; exact g3 q)
      · rw [if_neg g2, zb_237_100]
        by_cases g3 : zAl f t = 1
        · rw [if_pos g3, yT_pos (.inl ⟨k1, g, by rw [if_neg g2]; exact g3⟩)]
        · rw [if_neg g3, yT_neg]
          rintro (⟨-, -, q⟩ | ⟨q, -⟩ | ⟨q, -⟩ | ⟨q, -⟩ | ⟨q, -⟩ | ⟨q, -⟩) <;> first | omega | (rw [if_neg g2] at q; exact g3 q)
    · rw [if_neg g, yT_neg]
      rintro (⟨-, q, -⟩ | ⟨q, -⟩ | ⟨q, -⟩ | ⟨q, -⟩ | ⟨q, -⟩ | ⟨q, -⟩) <;> omega
  rw [if_neg k1]
  by_cases k2 : zbd m l f % 8 = 2
  · rw [if_pos k2, zk_238 _ _ (by omega) (by omega), zbs, zmG_v, zb_237_116, w32_of (by omega) (by omega)]
    by_cases g : zAc f t * zamt (zAl f t) = 2
    · rw [if_pos g, yT_pos (.inr (.inl ⟨k2, g⟩))]
    · rw [if_neg g, yT_neg]
      rintro (⟨q, -⟩ | ⟨-, q⟩ | ⟨q, -⟩ | ⟨q, -⟩ | ⟨q, -⟩ | ⟨q, -⟩) <;> omega
  rw [if_neg k2]
  by_cases k3 : zbd m l f % 8 = 3
  · rw [if_pos k3, zk_238 _ _ (by omega) (by omega), zbs, zmG_v, zb_237_134]
    by_cases g : zAc f t = zamt (zAl f t)
    · rw [if_pos g]
      by_cases g2 : 0 < zAc f t
      · rw [if_pos g2, fr _ _ ⟨fun q => by subst q; unfold zAc zamt at g2; split at g2 <;> omega, .inr (.inr g)⟩, zb_237_149, fin]
        refine congrArg (fun x => some (some (zi x), zW L m)) (yT_c ⟨fun q => .inr (.inr (.inl ⟨k3, g, g2, q⟩)), ?_⟩)
        rintro (⟨q, -⟩ | ⟨q, -⟩ | ⟨-, -, -, q⟩ | ⟨q, -⟩ | ⟨q, -⟩ | ⟨q, -⟩) <;> first | exact q | omega
      · rw [if_neg g2, yT_neg]
        rintro (⟨q, -⟩ | ⟨q, -⟩ | ⟨-, -, q, -⟩ | ⟨q, -⟩ | ⟨q, -⟩ | ⟨q, -⟩) <;> omega
    · rw [if_neg g, yT_neg]
      rintro (⟨q, -⟩ | ⟨q, -⟩ | ⟨-, q, -⟩ | ⟨q, -⟩ | ⟨q, -⟩ | ⟨q, -⟩) <;> omega
  have hac : zAc f t * zAl f t = 0 → f % 8 = t % 8 ∨ f / 8 = t / 8 := fun q => by
    rcases Int.mul_eq_zero.mp q with q | q
    · exact .inl (by have := a1.2.2.mp q; omega)
    · exact .inr (by have : t / 8 - f / 8 = 0 := q; omega)
  have hln : zAc f t * zAl f t = 0 ∨ zAc f t = zamt (zAl f t) → f ≠ t → zLine f t := fun q h => ⟨h, by
    rcases q with q | q
    · rcases hac q with q | q
      · exact .inl q
      · exact .inr (.inl q)
    · exact .inr (.inr q)⟩
  rw [if_neg k3, w32_of (by omega) (by omega)]
  by_cases k4 : zbd m l f % 8 = 4
  · rw [if_pos k4]
    by_cases g : zAc f t * zAl f t = 0
    · rw [if_pos g]
      by_cases g2 : f = t
      · rw [if_pos g2, yT_neg]
        rintro (⟨q, -⟩ | ⟨q, -⟩ | ⟨q, -⟩ | ⟨-, -, q, -⟩ | ⟨q, -⟩ | ⟨q, -⟩) <;> omega
      · rw [if_neg g2, fr _ _ (hln (.inl g) g2), zb_237_178, fin]
        refine congrArg (fun x => some (some (zi x), zW L m)) (yT_c ⟨fun q => .inr (.inr (.inr (.inl ⟨k4, g, g2, q⟩))), ?_⟩)
        rintro (⟨q, -⟩ | ⟨q, -⟩ | ⟨q, -⟩ | ⟨-, -, -, q⟩ | ⟨q, -⟩ | ⟨q, -⟩) <;> first | exact q | omega
    · rw [if_neg g, yT_neg]
      rintro (⟨q, -⟩ | ⟨q, -⟩ | ⟨q, -⟩ | ⟨-, q, -⟩ | ⟨q, -⟩ | ⟨q, -⟩) <;> omega
  rw [if_neg k4]
  by_cases k5 : zbd m l f % 8 = 5
  · rw [if_pos k5]
    by_cases g2 : f = t
    · rw [if_pos g2, yT_neg]
      rintro (⟨q, -⟩ | ⟨q, -⟩ | ⟨q, -⟩ | ⟨q, -⟩ | ⟨-, q, -⟩ | ⟨q, -⟩) <;> omega
    rw [if_neg g2]
    have go : zAc f t * zAl f t = 0 ∨ zAc f t = zamt (zAl f t) → zmE (zmD zP (d + 2)) zc_237 (210, [some (zr 98), some (zi l), some (zi f), some (zi t), some (zi (zbd m l f)), some (zi (zAc f t)), some (zi (zAl f t))], [], zW L m) = some (some (zi (yT (yReach (zbd m l) f t))), zW L m) := fun g => by
      rw [zb_237_210, fr _ _ (hln g g2), zb_237_217, fin]
      refine congrArg (fun x => some (some (zi x), zW L m)) (yT_c ⟨fun q => .inr (.inr (.inr (.inr (.inl ⟨k5, g2, g, q⟩)))), ?_⟩)
      rintro (⟨q, -⟩ | ⟨q, -⟩ | ⟨q, -⟩ | ⟨q, -⟩ | ⟨-, -, -, q⟩ | ⟨q, -⟩) <;> first | exact q | omega
    by_cases g : zAc f t * zAl f t = 0
    · rw [if_pos g, go (.inl g)]
    · rw [if_neg g, zk_238 _ _ (by omega) (by omega), zbs, zmG_v, zb_237_207]
      by_cases g3 : zAc f t = zamt (zAl f t)
      · rw [if_pos g3, go (.inr g3)]
      · rw [if_neg g3, yT_neg]
        rintro (⟨q, -⟩ | ⟨q, -⟩ | ⟨q, -⟩ | ⟨q, -⟩ | ⟨-, -, q | q, -⟩ | ⟨q, -⟩) <;> omega
  rw [if_neg k5]
  by_cases k6 : zbd m l f % 8 = 6
  · rw [if_pos k6]
    by_cases g2 : f = t
    · rw [if_pos g2, yT_neg]
      rintro (⟨q, -⟩ | ⟨q, -⟩ | ⟨q, -⟩ | ⟨q, -⟩ | ⟨q, -⟩ | ⟨-, q, -⟩) <;> omega
    rw [if_neg g2]
    by_cases g : zAc f t < 2
    · rw [if_pos g, zk_238 _ _ (by omega) (by omega), zbs, zmG_v, zb_237_242]
      by_cases g3 : zamt (zAl f t) < 2
      · rw [if_pos g3, yT_pos (.inr (.inr (.inr (.inr (.inr ⟨k6, g2, g, g3⟩)))))]
      · rw [if_neg g3, yT_neg]
        rintro (⟨q, -⟩ | ⟨q, -⟩ | ⟨q, -⟩ | ⟨q, -⟩ | ⟨q, -⟩ | ⟨-, -, -, q⟩) <;> omega
    · rw [if_neg g, yT_neg]
      rintro (⟨q, -⟩ | ⟨q, -⟩ | ⟨q, -⟩ | ⟨q, -⟩ | ⟨q, -⟩ | ⟨-, -, q, -⟩) <;> omega
  rw [if_neg k6, yT_neg]
  rintro (⟨q, -⟩ | ⟨q, -⟩ | ⟨q, -⟩ | ⟨q, -⟩ | ⟨q, -⟩ | ⟨q, -⟩) <;> omega
/-- a pawn's step -/
def yGoes (b : Int → Int) (f t : Int) : Prop := ((if 8 < b f then f - t else t - f) = 8 ∧ b t = 0) ∨ ((if 8 < b f then f - t else t - f) = 16 ∧ (if 8 < b f then 7 - f / 8 else f / 8) = 1 ∧ b t = 0 ∧ b ((f + t) / 2) = 0)
theorem zk_236 (l f t : Int) (hl : 0 ≤ l ∧ l < 4) (hf : 0 ≤ f ∧ f < 64) (ht : 0 ≤ t ∧ t < 64) : zmD zP (d + 1) 236 [zr 98, zi l, zi f, zi t] (zW L m) = some (some (zi (yT (yGoes (zbd m l) f t))), zW L m) := by
  have e1 : ∀ s, m 105 (64 * l + s) = zbd m l s := fun _ => rfl
  have e29 : ∀ x, (if 8 < zbd m l f then zmE (zmD zP d) zc_236 (29, [some (zr 98), some (zi l), some (zi f), some (zi t), some (zi x), none, none, none], [zi (f - t)], zW L m) else zmE (zmD zP d) zc_236 (29, [some (zr 98), some (zi l), some (zi f), some (zi t), some (zi x), none, none, none], [zi (t - f)], zW L m)) = zmE (zmD zP d) zc_236 (29, [some (zr 98), some (zi l), some (zi f), some (zi t), some (zi x), none, none, none], [zi (if 8 < zbd m l f then f - t else t - f)], zW L m) := fun x => by
    split <;> rfl
  rw [zen_236, zb_236_0, zgr_98_8, zbs, w32_of (z := 64 * l) (by omega) (by omega), w32_of (z := 64 * l + f) (by omega) (by omega), zai_105 (by omega) (by omega), zbs, e1, w32_of (z := f - t) (by omega) (by omega), w32_of (z := t - f) (by omega) (by omega), e29, zb_236_29, z_div_of hf.1 (by omega) (by decide), w32_of (z := 7 - f / 8) (by omega) (by omega)]
  unfold yGoes
  generalize hby : (if 8 < zbd m l f then f - t else t - f) = by_
  have hby2 : by_ = f - t ∨ by_ = t - f := by rw [← hby]; split <;> omega
  have eo : (if 8 < zbd m l f then zmE (zmD zP d) zc_236 (52, [some (zr 98), some (zi l), some (zi f), some (zi t), some (zi (zbd m l f)), some (zi by_), none, none], [zi (7 - f / 8)], zW L m) else zmE (zmD zP d) zc_236 (52, [some (zr 98), some (zi l), some (zi f), some (zi t), some (zi (zbd m l f)), some (zi by_), none, none], [zi (f / 8)], zW L m)) = zmE (zmD zP d) zc_236 (52, [some (zr 98), some (zi l), some (zi f), some (zi t), some (zi (zbd m l f)), some (zi by_), none, none], [zi (if 8 < zbd m l f then 7 - f / 8 else f / 8)], zW L m) := by
    split <;> rfl
  rw [eo]
  generalize (if 8 < zbd m l f then 7 - f / 8 else f / 8) = own
  have last : ∀ x, (x = 0 ∨ x = 1) → zmE (zmD zP d) zc_236 (80, [some (zr 98), some (zi l), some (zi f), some (zi t), some (zi (zbd m l f)), some (zi by_), some (zi own), none], [zi x], zW L m) = some (some (zi (yT (x = 1 ∨ (by_ = 16 ∧ own = 1 ∧ zbd m l t = 0 ∧ zbd m l ((f + t) / 2) = 0)))), zW L m) := fun x hx => by
    rw [zb_236_80]
    by_cases g : x = 0
    · rw [if_pos g]
      by_cases g1 : by_ = 16
      · rw [if_pos g1]
        by_cases g2 : own = 1
        · rw [if_pos g2, zgr_98_8, zbs, w32_of (z := 64 * l) (by omega) (by omega), w32_of (z := 64 * l + t) (by omega) (by omega), zai_105 (by omega) (by omega), zbs, e1]
          by_cases g3 : zbd m l t = 0
          · rw [if_pos g3, zbs, w32_of (z := f + t) (by omega) (by omega), z_div_of (by omega) (by omega) (by decide), w32_of (by omega) (by omega), zai_105 (by omega) (by omega), zbs, e1]
            by_cases g4 : zbd m l ((f + t) / 2) = 0
            · rw [if_pos g4, zb_236_132, yT_pos (.inr ⟨g1, g2, g3, g4⟩)]
            · rw [if_neg g4, yT_neg]
              rintro (q | ⟨-, -, -, q⟩)
              · omega
              · exact g4 q
          · rw [if_neg g3, yT_neg]
            rintro (q | ⟨-, -, q, -⟩)
            · omega
            · exact g3 q
        · rw [if_neg g2, yT_neg]
          rintro (q | ⟨-, q, -⟩) <;> omega
      · rw [if_neg g1, yT_neg]
        rintro (q | ⟨q, -⟩) <;> omega
    · rw [if_neg g, zb_236_132, yT_pos (.inl (by omega))]
  rw [zb_236_52]
  by_cases g : by_ = 8
  · rw [if_pos g, zgr_98_8, zbs, w32_of (z := 64 * l) (by omega) (by omega), w32_of (z := 64 * l + t) (by omega) (by omega), zai_105 (by omega) (by omega), zbs, e1]
    by_cases g2 : zbd m l t = 0
    · rw [if_pos g2, last 1 (.inr rfl), yT_pos (.inl rfl), yT_pos (.inl ⟨g, g2⟩)]
    · rw [if_neg g2, zb_236_79, last 0 (.inl rfl), yT_neg (p := _ ∨ _), yT_neg]
      · rintro (⟨-, q⟩ | ⟨q, -⟩)
        · exact g2 q
        · omega
      · rintro (q | ⟨q, -⟩) <;> omega
  · rw [if_neg g, zb_236_79, last 0 (.inl rfl)]
    refine congrArg (fun x => some (some (zi x), zW L m)) (yT_c ⟨?_, ?_⟩)
    · rintro (q | q)
      · omega
      · exact .inr q
    · rintro (⟨q, -⟩ | q)
      · omega
      · exact .inr q
end ZR
