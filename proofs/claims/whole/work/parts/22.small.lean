/-! small methods of the reference -/
theorem z_div_of {x y : Int} (h : 0 ≤ x) (h2 : x ≤ 2147483647) (h3 : 0 < y) : z_div x y = x / y := by
  unfold z_div
  rw [Int.tdiv_eq_ediv_of_nonneg h, w32_of]
  · have := Int.ediv_nonneg h (Int.le_of_lt h3)
    omega
  · have := Int.ediv_le_self y h
    omega
theorem z_rem_of {x y : Int} (h : 0 ≤ x) (h2 : x ≤ 2147483647) (h3 : 0 < y) (h4 : y ≤ 2147483647) : z_rem x y = x % y := by
  have e1 : z_div x y = x / y := z_div_of h h2 h3
  have e2 : w32 (Int.tdiv x y) = x / y := e1
  have a1 := Int.mul_ediv_add_emod x y
  have a2 := Int.emod_nonneg x (Int.ne_of_gt h3)
  have a3 := Int.emod_lt_of_pos x h3
  have a4 : x / y * y = y * (x / y) := Int.mul_comm _ _
  have a5 : 0 ≤ y * (x / y) := Int.mul_nonneg (Int.le_of_lt h3) (Int.ediv_nonneg h (Int.le_of_lt h3))
  unfold z_rem
  rw [e2, w32_of (z := x / y * y) (by omega) (by omega), w32_of (by omega) (by omega)]
  omega
/-- sums over the first n -/
def zsum (f : Int → Int) : Nat → Int
  | 0 => 0
  | n + 1 => zsum f n + f n
theorem zsum_le {f : Int → Int} {c : Int} (h : ∀ i, f i ≤ c) : ∀ n : Nat, zsum f n ≤ c * n
  | 0 => by show (0 : Int) ≤ c * 0; omega
  | n + 1 => by
    have := zsum_le h n
    have := h n
    show zsum f n + f n ≤ c * ((n + 1 : Nat) : Int)
    rw [Int.natCast_succ, Int.mul_add]
    omega
theorem zsum_nn {f : Int → Int} (h : ∀ i, 0 ≤ f i) : ∀ n : Nat, 0 ≤ zsum f n
  | 0 => Int.le_refl 0
  | n + 1 => Int.add_nonneg (zsum_nn h n) (h n)
theorem zB_nn {p : Prop} [Decidable p] : 0 ≤ zB p := by
  unfold zB
  split <;> decide
theorem zB_le {p : Prop} [Decidable p] : zB p ≤ 1 := by
  unfold zB
  split <;> decide
theorem zB_c {p q : Prop} [Decidable p] [Decidable q] (h : p ↔ q) : zB p = zB q := by
  unfold zB
  by_cases g : p
  · rw [if_pos g, if_pos (h.mp g)]
  · rw [if_neg g, if_neg (fun x => g (h.mpr x))]
theorem zB_z {p : Prop} [Decidable p] : zB p = 0 ↔ ¬p := by
  unfold zB
  by_cases g : p
  · rw [if_pos g]
    exact ⟨fun h => by omega, fun h => absurd g h⟩
  · rw [if_neg g]
    exact ⟨fun _ => g, fun _ => rfl⟩
def zman (b : Int) : Int := if b = 80 then 1 else if b = 78 then 2 else if b = 66 then 3 else if b = 82 then 4 else if b = 81 then 5 else if b = 75 then 6 else if b = 112 then 9 else if b = 110 then 10 else if b = 98 then 11 else if b = 114 then 12 else if b = 113 then 13 else if b = 107 then 14 else 0
def zlet (k : Int) : Int := if k = 1 then 80 else if k = 2 then 78 else if k = 3 then 66 else if k = 4 then 82 else if k = 5 then 81 else 75
def zbyte (k : Int) : Int := if k = 0 then 0 else if 8 < k then zlet (k - 8) + 32 else zlet k
theorem zlet_in (k : Int) : 66 ≤ zlet k ∧ zlet k ≤ 82 := by
  unfold zlet
  repeat (split; · decide)
  decide
def zcol (k : Int) : Int := if k = 0 then -1 else if 8 < k then 8 else 0
def zamt (v : Int) : Int := if v < 0 then -v else v
def zsgn (v : Int) : Int := if 0 < v then 1 else if v < 0 then -1 else 0
def zcolumn (b : Int) : Int := if 97 ≤ b ∧ b ≤ 104 then b - 97 else -1
def zrow (b : Int) : Int := if 49 ≤ b ∧ b ≤ 56 then b - 49 else -1
section ZR
variable {L : Nat} {m : Nat → Int → Int} {w : zmW} (d : Nat)
theorem zk_201 (v lo hi : Int) : zmD zP (d + 1) 201 [zl v, zl lo, zl hi] w = some (some (zi (zB (lo ≤ v ∧ v ≤ hi))), w) := by
  rw [zen_201, zb_201_0]
  by_cases h : v < lo
  · rw [if_pos (by rw [if_neg (by omega), if_neg (by omega)]; decide), zB, if_neg (by omega)]
  · by_cases h2 : hi < v
    · rw [if_neg (by split <;> (try split) <;> omega), if_pos (by rw [if_pos h2]; decide), zB, if_neg (by omega)]
    · rw [if_neg (by split <;> (try split) <;> omega), if_neg (by rw [if_neg h2]; split <;> decide), zB, if_pos (by omega)]
theorem zk_204 (s : Int) : zmD zP (d + 2) 204 [zi s] w = some (some (zi (zB (0 ≤ s ∧ s ≤ 3))), w) := by
  rw [zen_204, zb_204_0, zk_201, zbs, zmG_v, zb_204_9, if_pos zB_or]
theorem zk_226 (s : Int) : zmD zP (d + 2) 226 [zi s] w = some (some (zi (zB (0 ≤ s ∧ s ≤ 63))), w) := by
  rw [zen_226, zb_226_0, zk_201, zbs, zmG_v, zb_226_9, if_pos zB_or]
theorem zk_213 (s : Int) : zmD zP (d + 2) 213 [zi s] w = some (some (zi (zB (0 ≤ s ∧ s ≤ 2))), w) := by
  rw [zen_213, zb_213_0, zk_201, zbs, zmG_v, zb_213_9, if_pos zB_or]
theorem zk_244 (s : Int) : zmD zP (d + 2) 244 [zi s] w = some (some (zi (zB (0 ≤ s ∧ s ≤ 4095))), w) := by
  rw [zen_244, zb_244_0, zk_201, zbs, zmG_v, zb_244_9, if_pos zB_or]
theorem zk_278 (s : Int) : zmD zP (d + 2) 278 [zi s] w = some (some (zi (zB (0 ≤ s ∧ s ≤ 99))), w) := by
  rw [zen_278, zb_278_0, zk_201, zbs, zmG_v, zb_278_9, if_pos zB_or]
theorem zk_279 (s : Int) : zmD zP (d + 2) 279 [zi s] w = some (some (zi (zB (0 ≤ s ∧ s ≤ 1))), w) := by
  rw [zen_279, zb_279_0, zk_201, zbs, zmG_v, zb_279_7, if_pos zB_or]
theorem zk_280 (v : Int) : zmD zP (d + 1) 280 [zi v] w = some (some (zl (w64 (-9223372036854775808 - v))), w) := by
  rw [zen_280, zb_280_0]
theorem zk_205 (f : Int) (h : 0 ≤ f) (h2 : f ≤ 5) : zmD zP (d + 1) 205 [zr 98, zi f] (zW L m) = some (some (zi (-10 - f)), zW L (zup m 98 4 f)) := by
  rw [zen_205, zb_205_0, zpi_98, zbs, w32_of (by omega) (by omega)]
theorem zk_198 (t : Int) : zmD zP (d + 1) 198 [zi t] w = some (some (zi (if t = 0 then 0 else if t = 1 then 80 else 90)), w) := by
  rw [zen_198, zb_198_0]
  split <;> (try split) <;> rfl
theorem zk_199 (b : Int) : zmD zP (d + 1) 199 [zi b] w = some (some (zi (zman b)), w) := by
  rw [zen_199, zb_199_0]
  by_cases h80 : b = 80
  · subst h80
    rfl
  by_cases h78 : b = 78
  · subst h78
    rfl
  by_cases h66 : b = 66
  · subst h66
    rfl
  by_cases h82 : b = 82
  · subst h82
    rfl
  by_cases h81 : b = 81
  · subst h81
    rfl
  by_cases h75 : b = 75
  · subst h75
    rfl
  by_cases h112 : b = 112
  · subst h112
    rfl
  by_cases h110 : b = 110
  · subst h110
    rfl
  by_cases h98 : b = 98
  · subst h98
    rfl
  by_cases h114 : b = 114
  · subst h114
    rfl
  by_cases h113 : b = 113
  · subst h113
    rfl
  by_cases h107 : b = 107
  · subst h107
    rfl
  unfold zman
  simp only [h80, h78, h66, h82, h81, h75, h112, h110, h98, h114, h113, h107, if_false, ite_self]
theorem zk_228 (k : Int) : zmD zP (d + 1) 228 [zi k] w = some (some (zi (zlet k)), w) := by
  rw [zen_228, zb_228_0]
  unfold zlet
  repeat (split; · rfl)
  rfl
theorem zk_227 (k : Int) (h : 0 ≤ k) (h2 : k ≤ 14) : zmD zP (d + 2) 227 [zi k] w = some (some (zi (zbyte k)), w) := by
  rw [zen_227, zb_227_0]
  unfold zbyte
  by_cases g : k = 0
  · rw [if_pos g, if_pos g, zb_227_31]
  · rw [if_neg g, if_neg g]
    by_cases g2 : 8 < k
    · have := zlet_in (k - 8)
      rw [if_pos g2, if_pos g2, w32_of (by omega) (by omega), zk_228, zbs, zmG_v, zb_227_21, zb_227_31, w32_of (by omega) (by omega)]
    · rw [if_neg g2, if_neg g2, zk_228, zbs, zmG_v, zb_227_31]
theorem zk_233 (k : Int) : zmD zP (d + 1) 233 [zi k] w = some (some (zi (zcol k)), w) := by
  rw [zen_233, zb_233_0]
  unfold zcol
  split <;> (try split) <;> rfl
theorem zk_238 (v : Int) (h : -2147483647 ≤ v) (h2 : v ≤ 2147483647) : zmD zP (d + 1) 238 [zi v] w = some (some (zi (zamt v)), w) := by
  rw [zen_238, zb_238_0, w32_of (by omega) (by omega)]
  unfold zamt
  split <;> rfl
theorem zk_240 (v : Int) : zmD zP (d + 1) 240 [zi v] w = some (some (zi (zsgn v)), w) := by
  rw [zen_240, zb_240_0]
  unfold zsgn
  split <;> (try split) <;> rfl
theorem zk_220 (b : Int) : zmD zP (d + 2) 220 [zi b] w = some (some (zi (zcolumn b)), w) := by
  rw [zen_220, zb_220_0, zk_201, zbs, zmG_v, zb_220_11]
  unfold zcolumn
  by_cases h : 97 ≤ b ∧ b ≤ 104
  · rw [if_neg (by rw [zB_z]; exact fun q => q h), if_pos h, w32_of (by omega) (by omega)]
  · rw [if_pos (zB_z.mpr h), if_neg h]
theorem zk_221 (b : Int) : zmD zP (d + 2) 221 [zi b] w = some (some (zi (zrow b)), w) := by
  rw [zen_221, zb_221_0, zk_201, zbs, zmG_v, zb_221_11]
  unfold zrow
  by_cases h : 49 ≤ b ∧ b ≤ 56
  · rw [if_neg (by rw [zB_z]; exact fun q => q h), if_pos h, w32_of (by omega) (by omega)]
  · rw [if_pos (zB_z.mpr h), if_neg h]
theorem zk_209 (f v : Int) : zmD zP (d + 1) 209 [zi f, zi v] w = some (some (zi (if f = 0 then z_i2b v else if f = 1 then z_i2s v else v)), w) := by
  rw [zen_209, zb_209_0]
  split <;> (try split) <;> rfl
def zst (t : Int) : Int := if t = 0 then 0 else if t = 1 then 80 else 90
theorem zk_197 (t k : Int) (h : 0 ≤ t) (h2 : t ≤ 2) (h3 : 0 ≤ k) (h4 : k < m 104 t → k < 60 ∨ t = 0 ∧ k < 80) : zmD zP (d + 2) 197 [zr 98, zi t, zi k] (zW L m) = some (some (zi (if k < m 104 t then m 103 (zst t + k) else -1)), zW L m) := by
  rw [zen_197, zb_197_0, zgr_98_6, zbs, zai_104 h (by omega), zbs]
  by_cases g : k < m 104 t
  · have := h4 g
    have e : 0 ≤ zst t + k ∧ zst t + k < 150 := by
      unfold zst
      split <;> (try split) <;> omega
    rw [if_pos g, if_pos g, zgr_98_5, zbs, zk_198, zbs, zmG_v, zb_197_18]
    show (zAI (zW L m) 100 103 (w32 (zst t + k))).bind _ = _
    rw [w32_of (by omega) (by omega), zai_103 e.1 e.2, zbs]
  · rw [if_neg g, if_neg g]
def zkings (m : Nat → Int → Int) (k : Int) (n : Nat) : Int := zsum (fun s => zB (m 105 s = k)) n
theorem zk_200 (k : Int) : zmD zP (d + 1) 200 [zr 98, zi k] (zW L m) = some (some (zi (zkings m k 64)), zW L m) := by
  rw [zen_200, zb_200_0]
  suffices h : ∀ n i : Nat, i + n = 64 → zmE (zmD zP d) zc_200 (4, [some (zr 98), some (zi k), some (zi (zkings m k i)), some (zi i)], [], zW L m) = some (some (zi (zkings m k 64)), zW L m) from h 64 0 rfl
  intro n
  induction n with
  | zero =>
    intro i hi
    rw [zb_200_4, if_neg (by omega), show i = 64 by omega]
  | succ n ih =>
    intro i hi
    have a1 : 0 ≤ zkings m k i := zsum_nn (fun _ => zB_nn) i
    have a2 : zkings m k i ≤ 1 * i := zsum_le (fun _ => zB_le) i
    have a3 : zkings m k (i + 1) = zkings m k i + zB (m 105 i = k) := rfl
    rw [zb_200_4, if_pos (by omega), zgr_98_8, zbs, zai_105 (by omega) (by omega), zbs]
    have e := ih (i + 1) (by omega)
    rw [a3, Int.natCast_succ] at e
    unfold zB at e
    split <;> rename_i g
    · rw [if_pos g] at e
      rw [zb_200_26, w32_of (by omega) (by omega), w32_of (by omega) (by omega), e]
    · rw [if_neg g] at e
      rw [zb_200_26, w32_of (by omega) (by omega), w32_of (by omega) (by omega), e]
end ZR
