/-! applies, copies, makes of the reference -/
def yApM (m : Nat → Int → Int) (l v : Int) : Nat → Int → Int := zup (yPutM m l (v / 64) (v % 64)) 106 l (8 - m 106 l)
def yCpN (m : Nat → Int → Int) (l : Int) (n : Nat) : Nat → Int → Int := fun a j => if a = 105 ∧ 64 * l + 64 ≤ j ∧ j < 64 * l + 64 + n then m 105 (j - 64) else m a j
def yCpM (m : Nat → Int → Int) (l : Int) : Nat → Int → Int := zup (yCpN m l 64) 106 (l + 1) (m 106 l)
def yMkM (m : Nat → Int → Int) (l v : Int) : Nat → Int → Int := yApM (yCpM m l) (l + 1) v
theorem yCpN_zero {m : Nat → Int → Int} {l : Int} : yCpN m l 0 = m := by
  funext a j
  unfold yCpN
  rw [if_neg]
  rintro ⟨-, h1, h2⟩
  rw [show ((0 : Nat) : Int) = 0 from rfl] at h2
  omega
theorem yCpN_succ {m : Nat → Int → Int} {l : Int} (n : Nat) : yCpN m l (n + 1) = zup (yCpN m l n) 105 (64 * l + 64 + n) (m 105 (64 * l + n)) := by
  funext a j
  unfold yCpN zup
  dsimp only
  rw [Int.natCast_succ]
  by_cases h : a = 105 ∧ j = 64 * l + 64 + n
  · obtain ⟨rfl, rfl⟩ := h
    rw [if_pos ⟨rfl, by omega, by omega⟩, if_pos ⟨rfl, rfl⟩, show 64 * l + 64 + (n : Int) - 64 = 64 * l + n by omega]
  · rw [if_neg h]
    by_cases h2 : a = 105 ∧ 64 * l + 64 ≤ j ∧ j < 64 * l + 64 + n
    · rw [if_pos ⟨h2.1, h2.2.1, by omega⟩, if_pos h2]
    · rw [if_neg h2, if_neg]
      rintro ⟨h3, h4, h5⟩
      by_cases h6 : j = 64 * l + 64 + n
      · exact h ⟨h3, h6⟩
      · exact h2 ⟨h3, h4, by omega⟩
theorem yCpN_lo {m : Nat → Int → Int} {l s : Int} {n : Nat} (h : s < 64 * l + 64) : yCpN m l n 105 s = m 105 s := by
  unfold yCpN
  rw [if_neg]
  rintro ⟨-, h1, -⟩
  omega
theorem yCpN_ne {m : Nat → Int → Int} {l : Int} {n a : Nat} (h : a ≠ 105) : yCpN m l n a = m a := by
  funext j
  unfold yCpN
  rw [if_neg (fun q => h q.1)]
theorem zbd_cpM {m : Nat → Int → Int} {l s : Int} (h : 0 ≤ s ∧ s < 64) : zbd (yCpM m l) (l + 1) s = zbd m l s := by
  unfold zbd yCpM yCpN zup
  dsimp only
  rw [if_neg (by rintro ⟨q, -⟩; exact absurd q (by decide)), if_pos ⟨rfl, by omega, by omega⟩, show 64 * (l + 1) + s - 64 = 64 * l + s by omega]
section ZR
variable {L : Nat} {m : Nat → Int → Int} (d : Nat)
theorem zk_248 (l v : Int) (hl : 0 ≤ l ∧ l < 4) (hv : 0 ≤ v ∧ v < 4096) (hB : zOkB (zbd m l)) (hc : m 106 l = 0 ∨ m 106 l = 8) : zmD zP (d + 2) 248 [zr 98, zi l, zi v] (zW L m) = some (none, zW L (yApM m l v)) := by
  rw [zen_248, zb_248_0, z_div_of hv.1 (by omega) (by decide), z_rem_of hv.1 (by omega) (by decide) (by decide), zcv_98, zk_241 _ _ _ _ hl ⟨by omega, by omega⟩ ⟨by omega, by omega⟩ hB, zbs, zmG_n, zb_248_13, zgr_98_9, zbs, zbs, zai_106 hl.1 hl.2, zbs, yPutM_ne (by decide), w32_of (by omega) (by omega), zsi_106 hl.1 hl.2, zbs]
  rfl
theorem zk_275 (l : Int) (hl : 0 ≤ l ∧ l < 3) : zmD zP (d + 1) 275 [zr 98, zi l] (zW L m) = some (none, zW L (yCpM m l)) := by
  rw [zen_275, zb_275_0]
  have h : ∀ k n : Nat, n + k = 64 → zmE (zmD zP d) zc_275 (2, [some (zr 98), some (zi l), some (zi n)], [], zW L (yCpN m l n)) = some (none, zW L (yCpM m l)) := by
    intro k
    induction k with
    | zero =>
      intro n hn
      have : n = 64 := by omega
      subst this
      rw [zb_275_2, if_neg (by omega), zgr_98_9, zbs, zbs, zai_106 hl.1 (by omega), zbs, w32_of (by omega) (by omega), zsi_106 (by omega) (by omega), zbs, yCpN_ne (by decide)]
      rfl
    | succ k ih =>
      intro n hn
      have e := ih (n + 1) (by omega)
      rw [Int.natCast_succ, yCpN_succ] at e
      rw [zb_275_2, if_pos (by omega), zgr_98_8, zbs, zbs, w32_of (z := 64 * l) (by omega) (by omega), w32_of (z := 64 * l + n) (by omega) (by omega), zai_105 (by omega) (by omega), zbs, w32_of (z := 64 * l + 64) (by omega) (by omega), w32_of (z := 64 * l + 64 + n) (by omega) (by omega), zsi_105 (by omega) (by omega), zbs, w32_of (by omega) (by omega), yCpN_lo (by omega)]
      exact e
  have e := h 64 0 rfl
  rw [yCpN_zero] at e
  exact e
theorem zk_274 (l v : Int) (hl : 0 ≤ l ∧ l < 3) (hv : 0 ≤ v ∧ v < 4096) (hB : zOkB (zbd m l)) (hc : m 106 l = 0 ∨ m 106 l = 8) : zmD zP (d + 3) 274 [zr 98, zi l, zi v] (zW L m) = some (none, zW L (yMkM m l v)) := by
  have hB2 : zOkB (zbd (yCpM m l) (l + 1)) := fun s h1 h2 => by
    rw [zbd_cpM ⟨h1, h2⟩]
    exact hB s h1 h2
  have hc2 : yCpM m l 106 (l + 1) = m 106 l := zup_self
  rw [zen_274, zb_274_0, zcv_98, zk_275 _ _ hl, zbs, zmG_n, zb_274_5, w32_of (by omega) (by omega), zcv_98, zk_248 _ _ _ ⟨by omega, by omega⟩ hv hB2 (by rw [hc2]; exact hc), zbs, zmG_n, zb_274_13]
  rfl
end ZR
