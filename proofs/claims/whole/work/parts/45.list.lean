/-! keys, sayings that fit, rows of moves -/
theorem z_bitsK : ∀ i : Nat, i < 64 → ∀ j : Nat, j < 64 → z_shr ((64 * i + j : Nat) : Int) 9 = ((i / 8 : Nat) : Int) ∧ z_shr ((64 * i + j : Nat) : Int) 3 = ((8 * i + j / 8 : Nat) : Int) ∧ z_and ((64 * i + j : Nat) : Int) 7 = ((j % 8 : Nat) : Int) ∧ z_and ((8 * i + j / 8 : Nat) : Int) 7 = ((j / 8 : Nat) : Int) := by decide +kernel
theorem z_key {s : Int} (h : 0 ≤ s ∧ s < 4096) : z_and (z_shr s 6) 7 = s / 64 % 8 ∧ z_and (z_shr s 9) 7 = s / 512 ∧ z_and s 7 = s % 8 ∧ z_and (z_shr s 3) 7 = s / 8 % 8 := by
  have := z_bitsK (s.toNat / 64) (by omega) (s.toNat % 64) (by omega)
  obtain ⟨h1, h2, h3, h4⟩ := this
  rw [show ((64 * (s.toNat / 64) + s.toNat % 64 : Nat) : Int) = s by omega] at h1 h2 h3
  rw [h1, h2, h3, h4, (z_and63 h).2, (z_and7 ⟨by omega, by omega⟩).1]
  rw [show ((s.toNat / 64 / 8 : Nat) : Int) = s / 512 by omega, (z_and7 (s := s / 512) ⟨by omega, by omega⟩).1]
  omega
def yDg (p bit k d : Int) : Int := if z_and p bit = 0 then k else k * 8 + d
def yKey (p kind v : Int) : Int := yDg p 1 (yDg p 2 (yDg p 4 (yDg p 8 (if z_and p 16 = 0 then 0 else kind) (v / 64 % 8)) (v / 512)) (v % 8)) (v / 8 % 8)
theorem yDg_in {p bit k d c : Int} (hk : 0 ≤ k ∧ k ≤ c) (hd : 0 ≤ d ∧ d < 8) : 0 ≤ yDg p bit k d ∧ yDg p bit k d ≤ 8 * c + 7 := by
  unfold yDg
  split <;> omega
theorem yKey_in {p kind v : Int} (hk : 0 ≤ kind ∧ kind ≤ 5) (hv : 0 ≤ v ∧ v < 4096) : 0 ≤ yKey p kind v ∧ yKey p kind v ≤ 24575 := by
  have h0 : 0 ≤ (if z_and p 16 = 0 then 0 else kind) ∧ (if z_and p 16 = 0 then 0 else kind) ≤ 5 := by split <;> omega
  exact yDg_in (yDg_in (yDg_in (yDg_in h0 (by omega)) (by omega)) (by omega)) (by omega)
section ZR
variable {L : Nat} {m : Nat → Int → Int} (D : Nat)
theorem zk_86 (p kind v : Int) (hk : 0 ≤ kind ∧ kind ≤ 5) (hv : 0 ≤ v ∧ v < 4096) : zmD zP (D + 1) 86 [zi p, zi kind, zi v] (zW L m) = some (some (zi (yKey p kind v)), zW L m) := by
  have h0 : 0 ≤ (if z_and p 16 = 0 then 0 else kind) ∧ (if z_and p 16 = 0 then 0 else kind) ≤ 5 := by split <;> omega
  obtain ⟨q1, q2, q3, q4⟩ := z_key hv
  have e0 : zmE (zmD zP D) zc_86 (0, [some (zi p), some (zi kind), some (zi v), none], [], zW L m) = zmE (zmD zP D) zc_86 (12, [some (zi p), some (zi kind), some (zi v), none], [zi (if z_and p 16 = 0 then 0 else kind)], zW L m) := by
    rw [zb_86_0]
    split <;> rfl
  rw [zen_86, e0]
  unfold yKey
  generalize (if z_and p 16 = 0 then 0 else kind) = k0 at *
  have s1 : zmE (zmD zP D) zc_86 (12, [some (zi p), some (zi kind), some (zi v), none], [zi k0], zW L m) = zmE (zmD zP D) zc_86 (33, [some (zi p), some (zi kind), some (zi v), some (zi (yDg p 8 k0 (v / 64 % 8)))], [], zW L m) := by
    rw [zb_86_12, q1]
    unfold yDg
    split
    · rfl
    · rw [w32_of (z := k0 * 8) (by omega) (by omega), w32_of (by omega) (by omega)]
  rw [s1]
  have h1 := yDg_in (p := p) (bit := 8) h0 (d := v / 64 % 8) (by omega)
  generalize yDg p 8 k0 (v / 64 % 8) = k1 at *
  have s2 : zmE (zmD zP D) zc_86 (33, [some (zi p), some (zi kind), some (zi v), some (zi k1)], [], zW L m) = zmE (zmD zP D) zc_86 (52, [some (zi p), some (zi kind), some (zi v), some (zi (yDg p 4 k1 (v / 512)))], [], zW L m) := by
    rw [zb_86_33, q2]
    unfold yDg
    split
    · rfl
    · rw [w32_of (z := k1 * 8) (by omega) (by omega), w32_of (by omega) (by omega)]
  rw [s2]
  have h2 := yDg_in (p := p) (bit := 4) h1 (d := v / 512) (by omega)
  generalize yDg p 4 k1 (v / 512) = k2 at *
  have s3 : zmE (zmD zP D) zc_86 (52, [some (zi p), some (zi kind), some (zi v), some (zi k2)], [], zW L m) = zmE (zmD zP D) zc_86 (68, [some (zi p), some (zi kind), some (zi v), some (zi (yDg p 2 k2 (v % 8)))], [], zW L m) := by
    rw [zb_86_52, q3]
    unfold yDg
    split
    · rfl
    · rw [w32_of (z := k2 * 8) (by omega) (by omega), w32_of (by omega) (by omega)]
  rw [s3]
  have h3 := yDg_in (p := p) (bit := 2) h2 (d := v % 8) (by omega)
  generalize yDg p 2 k2 (v % 8) = k3 at *
  have s4 : zmE (zmD zP D) zc_86 (68, [some (zi p), some (zi kind), some (zi v), some (zi k3)], [], zW L m) = zmE (zmD zP D) zc_86 (86, [some (zi p), some (zi kind), some (zi v), some (zi (yDg p 1 k3 (v / 8 % 8)))], [], zW L m) := by
    rw [zb_86_68, q4]
    unfold yDg
    split
    · rfl
    · rw [w32_of (z := k3 * 8) (by omega) (by omega), w32_of (by omega) (by omega)]
  rw [s4, zb_86_86]
/-- a saying of the class: an object z -/
def yFitC (m : Nat → Int → Int) (z : Nat) (kind v : Int) : Prop := m z 2 ≠ 0 ∧ yKey (m z 0) kind v = m z 1
theorem zk_85 {z : Nat} (hz : zSH L z = (4, 0)) (kind v : Int) (hk : 0 ≤ kind ∧ kind ≤ 5) (hv : 0 ≤ v ∧ v < 4096) : zmD zP (D + 2) 85 [zr z, zi kind, zi v] (zW L m) = some (some (zi (yT (yFitC m z kind v))), zW L m) := by
  have g1 : ∀ k, zGI (zW L m) z 4 k = some (m z k) := fun k => zw_gi (congrArg Prod.fst hz)
  unfold yFitC
  rw [zen_85, zb_85_0, g1, zbs]
  by_cases g : m z 2 = 0
  · rw [if_pos g, yT_neg (fun q => q.1 g)]
  · rw [if_neg g, g1, zbs, zk_86 D _ _ _ hk hv, zbs, zmG_v, zb_85_16, g1, zbs]
    by_cases g2 : yKey (m z 0) kind v = m z 1
    · rw [if_pos g2, yT_pos ⟨g, g2⟩]
    · rw [if_neg g2, yT_neg (fun q => g2 q.2)]
/-- where a row of moves lies: q the object, room R -/
def yLs (L q R : Nat) : Prop := (zSH L q = (5, 0) ∧ zMR q 0 = some (q + 1) ∧ zMR q 1 = some (q + 2) ∧ zMR q 2 = some (q + 3)) ∧ (zSH L (q + 1) = (100, R) ∧ zSH L (q + 2) = (100, R) ∧ zSH L (q + 3) = (100, R)) ∧ q + 3 < 98 ∧ R ≤ 640
section ZL
variable {q R : Nat} {k z : Int}
theorem yl0 (h : yLs L q R) : zGR (zW L m) q 5 0 = some (q + 1) := (zw_gr (congrArg Prod.fst h.1.1)).trans h.1.2.1
theorem yl1 (h : yLs L q R) : zGR (zW L m) q 5 1 = some (q + 2) := (zw_gr (congrArg Prod.fst h.1.1)).trans h.1.2.2.1
theorem yl2 (h : yLs L q R) : zGR (zW L m) q 5 2 = some (q + 3) := (zw_gr (congrArg Prod.fst h.1.1)).trans h.1.2.2.2
theorem yli (h : yLs L q R) : zGI (zW L m) q 5 k = some (m q k) := zw_gi (congrArg Prod.fst h.1.1)
theorem ylp (h : yLs L q R) : zPI (zW L m) q 5 k z = some (zW L (zup m q k z)) := zw_pi (congrArg Prod.fst h.1.1) (by have := h.2.2.1; omega)
theorem yla1 (h : yLs L q R) (h1 : 0 ≤ k) (h2 : k < R) : zAI (zW L m) 100 (q + 1) k = some (m (q + 1) k) := zw_ai (congrArg Prod.fst h.2.1.1) h1 (by rw [h.2.1.1]; exact h2)
theorem yla2 (h : yLs L q R) (h1 : 0 ≤ k) (h2 : k < R) : zAI (zW L m) 100 (q + 2) k = some (m (q + 2) k) := zw_ai (congrArg Prod.fst h.2.1.2.1) h1 (by rw [h.2.1.2.1]; exact h2)
theorem yla3 (h : yLs L q R) (h1 : 0 ≤ k) (h2 : k < R) : zAI (zW L m) 100 (q + 3) k = some (m (q + 3) k) := zw_ai (congrArg Prod.fst h.2.1.2.2) h1 (by rw [h.2.1.2.2]; exact h2)
theorem yls1 (h : yLs L q R) (h1 : 0 ≤ k) (h2 : k < R) : zSI (zW L m) 100 (q + 1) k z = some (zW L (zup m (q + 1) k z)) := zw_si (congrArg Prod.fst h.2.1.1) h1 (by rw [h.2.1.1]; exact h2) (by have := h.2.2.1; omega)
theorem yls2 (h : yLs L q R) (h1 : 0 ≤ k) (h2 : k < R) : zSI (zW L m) 100 (q + 2) k z = some (zW L (zup m (q + 2) k z)) := zw_si (congrArg Prod.fst h.2.1.2.1) h1 (by rw [h.2.1.2.1]; exact h2) (by have := h.2.2.1; omega)
theorem yls3 (h : yLs L q R) (h1 : 0 ≤ k) (h2 : k < R) : zSI (zW L m) 100 (q + 3) k z = some (zW L (zup m (q + 3) k z)) := zw_si (congrArg Prod.fst h.2.1.2.2) h1 (by rw [h.2.1.2.2]; exact h2) (by have := h.2.2.1; omega)
theorem ylen (h : yLs L q R) : zLen (zW L m) (q + 1) = some (R : Int) := (zw_len (by rw [h.2.1.1]; exact Nat.le_refl 100) (by rw [h.2.1.1]; have := h.2.2.2; show R ≤ 100000; omega)).trans (by rw [h.2.1.1])
theorem ylc (h : yLs L q R) {K : zmK} {y : Nat} {A : List zmV} : zcv K y 5 q A (zW L m) = K y A (zW L m) := zw_cv (congrArg Prod.fst h.1.1)
end ZL
theorem yget_l {xs ys : List Int} {i : Nat} (h : i < xs.length) : (xs ++ ys).getD i 0 = xs.getD i 0 := by
  rw [List.getD_eq_getElem?_getD, List.getD_eq_getElem?_getD, List.getElem?_append_left h]
theorem yget_e {xs : List Int} {c : Int} {i : Nat} (h : i = xs.length) : (xs ++ [c]).getD i 0 = c := by
  rw [List.getD_eq_getElem?_getD, List.getElem?_append_right (by omega), h, Nat.sub_self]
  rfl
/-- a row of moves as it lies: codes and kinds, by the board that they are of -/
def yMl (m : Nat → Int → Int) (q : Nat) (b : Int → Int) (xs : List Int) : Prop := m q 3 = xs.length ∧ ∀ i : Nat, i < xs.length → m (q + 1) i = xs.getD i 0 ∧ m (q + 2) i = b (xs.getD i 0 / 64) % 8 - 1
def yMf (m : Nat → Int → Int) (q n : Nat) : Prop := ∀ i : Nat, i < n → m (q + 3) i = 10
def yFr (lo hi : Nat) (m m' : Nat → Int → Int) : Prop := ∀ x, x < lo ∨ hi < x → m' x = m x
theorem yFr_rfl {lo hi : Nat} {m : Nat → Int → Int} : yFr lo hi m m := fun _ _ => rfl
theorem yFr_tr {lo hi : Nat} {m m' m'' : Nat → Int → Int} (h : yFr lo hi m m') (h2 : yFr lo hi m' m'') : yFr lo hi m m'' := fun x hx => (h2 x hx).trans (h x hx)
theorem yFr_wd {lo hi lo' hi' : Nat} {m m' : Nat → Int → Int} (h : yFr lo hi m m') (h1 : lo' ≤ lo) (h2 : hi ≤ hi') : yFr lo' hi' m m' := fun x hx => h x (by omega)
theorem zk_88 {q R : Nat} (h : yLs L q R) {b : Int → Int} {xs : List Int} (hm : yMl m q b xs) (hf : yMf m q xs.length) (hl : xs.length ≤ R) (v kind : Int) (hk : kind = b (v / 64) % 8 - 1) : ∃ m', zmD zP (D + 1) 88 [zr q, zi v, zi kind] (zW L m) = some (none, zW L m') ∧ yFr q (q + 3) m m' ∧ yMl m' q b (if xs.length < R then xs ++ [v] else xs) ∧ yMf m' q (if xs.length < R then xs ++ [v] else xs).length := by
  have hR := h.2.2.2
  rw [zen_88, zb_88_0, yli h, zbs, yl0 h, zbs, ylen h, zbs, hm.1]
  by_cases g : xs.length < R
  · simp (disch := omega) only [if_pos, yl0 h, yl1 h, yl2 h, yli h, yls1 h, yls2 h, yls3 h, ylp h, zbs, zup_ne, hm.1, w32_of]
    refine ⟨_, rfl, fun x hx => ?_, ⟨?_, fun i hi => ?_⟩, fun i hi => ?_⟩
    · funext j
      rw [zup_ne (by omega), zup_ne (by omega), zup_ne (by omega), zup_ne (by omega)]
    · rw [zup_self, List.length_append]
      rfl
    · rw [List.length_append] at hi
      have hi : i < xs.length + 1 := hi
      simp (disch := omega) only [zup_ne]
      by_cases hi2 : i = xs.length
      · rw [hi2]
        simp (disch := omega) only [zup_self, yget_e]
        exact ⟨trivial, hk⟩
      · simp (disch := omega) only [zup_ne2, zup_ne, yget_l]
        exact hm.2 i (by omega)
    · rw [List.length_append] at hi
      have hi : i < xs.length + 1 := hi
      rw [zup_ne (by omega)]
      by_cases hi2 : i = xs.length
      · rw [hi2, zup_self]
      · simp (disch := omega) only [zup_ne2, zup_ne]
        exact hf i (by omega)
  · rw [if_neg (by omega), if_neg g]
    exact ⟨m, rfl, yFr_rfl, hm, hf⟩
end ZR
