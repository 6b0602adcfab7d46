/-! pure 21: counting bits, byte by byte -/
/-- a mask acts per byte -/
theorem sp_land {b y m M s : Nat} (hb : b < 2 ^ 8) (hm : m < 2 ^ (8 - s)) (hs : s ≤ 8) : ((2 ^ 8 * y + b) >>> s) &&& (2 ^ 8 * M + m) = 2 ^ 8 * ((y >>> s) &&& M) + ((b >>> s) &&& m) := by
  have hm8 : m < 2 ^ 8 := Nat.lt_of_lt_of_le hm (Nat.pow_le_pow_right (by decide) (by omega))
  have hbm : (b >>> s) &&& m < 2 ^ 8 := Nat.lt_of_le_of_lt Nat.and_le_right hm8
  apply Nat.eq_of_testBit_eq
  intro j
  rw [Nat.testBit_and, Nat.testBit_shiftRight, Nat.testBit_two_pow_mul_add _ hb, Nat.testBit_two_pow_mul_add _ hm8, Nat.testBit_two_pow_mul_add _ hbm]
  by_cases c : j < 8
  · rw [if_pos c, if_pos c, Nat.testBit_and, Nat.testBit_shiftRight]
    by_cases d : s + j < 8
    · rw [if_pos d]
    · rw [if_neg d]
      have : m.testBit j = false := Nat.testBit_lt_two_pow (Nat.lt_of_lt_of_le hm (Nat.pow_le_pow_right (by decide) (by omega)))
      rw [this, Bool.and_false, Bool.and_false]
  · rw [if_neg c, if_neg c, if_neg (by omega), Nat.testBit_and, Nat.testBit_shiftRight, show s + j - 8 = s + (j - 8) by omega]
def mk (r : Nat) : Nat → Nat
  | 0 => 0
  | n + 1 => 2 ^ 8 * mk r n + r
def sA (n x : Nat) : Nat := x - ((x >>> 1) &&& mk 85 n)
def sB (n x : Nat) : Nat := (x &&& mk 51 n) + ((x >>> 2) &&& mk 51 n)
def sC (n x : Nat) : Nat := (x + x >>> 4) &&& mk 15 n
theorem sA_le (n x : Nat) : sA n x ≤ x := Nat.sub_le _ _
theorem sA_s (n y : Nat) {b : Nat} (hb : b < 2 ^ 8) : sA (n + 1) (2 ^ 8 * y + b) = 2 ^ 8 * sA n y + sA 1 b := by
  unfold sA
  have h1 : ((2 ^ 8 * y + b) >>> 1) &&& mk 85 (n + 1) = 2 ^ 8 * ((y >>> 1) &&& mk 85 n) + ((b >>> 1) &&& 85) := sp_land hb (by decide) (by decide)
  have h2 : (y >>> 1) &&& mk 85 n ≤ y := Nat.le_trans Nat.and_le_left (by rw [Nat.shiftRight_eq_div_pow]; exact Nat.div_le_self _ _)
  have h3 : (b >>> 1) &&& 85 ≤ b := Nat.le_trans Nat.and_le_left (by rw [Nat.shiftRight_eq_div_pow]; exact Nat.div_le_self _ _)
  rw [h1, show mk 85 1 = 85 from rfl]
  omega
theorem sB_s (n y : Nat) {b : Nat} (hb : b < 2 ^ 8) : sB (n + 1) (2 ^ 8 * y + b) = 2 ^ 8 * sB n y + sB 1 b := by
  unfold sB
  have h1 : ((2 ^ 8 * y + b) >>> 2) &&& mk 51 (n + 1) = 2 ^ 8 * ((y >>> 2) &&& mk 51 n) + ((b >>> 2) &&& 51) := sp_land hb (by decide) (by decide)
  have h2 : ((2 ^ 8 * y + b) >>> 0) &&& mk 51 (n + 1) = 2 ^ 8 * ((y >>> 0) &&& mk 51 n) + ((b >>> 0) &&& 51) := sp_land hb (by decide) (by decide)
  simp only [Nat.shiftRight_zero] at h2
  rw [h1, h2, show mk 51 1 = 51 from rfl]
  omega
theorem byt1 : ∀ b, b < 2 ^ 8 → sA 1 b < 2 ^ 8 ∧ sB 1 (sA 1 b) % 16 ≤ 4 ∧ sB 1 (sA 1 b) / 16 ≤ 4 ∧ sB 1 (sA 1 b) < 2 ^ 8 := by decide +kernel
theorem sC_s (n y : Nat) {b : Nat} (h1 : b % 16 ≤ 4) (h2 : b / 16 ≤ 4) (h3 : y % 16 ≤ 4) : sC (n + 1) (2 ^ 8 * y + b) = 2 ^ 8 * sC n y + sC 1 b := by
  unfold sC
  have e : (2 ^ 8 * y + b) + (2 ^ 8 * y + b) >>> 4 = 2 ^ 8 * (y + y >>> 4) + (b + b >>> 4 + 16 * (y % 16)) := by
    rw [Nat.shiftRight_eq_div_pow, Nat.shiftRight_eq_div_pow, Nat.shiftRight_eq_div_pow]
    omega
  have hb : b + b >>> 4 + 16 * (y % 16) < 2 ^ 8 := by
    rw [Nat.shiftRight_eq_div_pow]; omega
  have h := sp_land (s := 0) (y := y + y >>> 4) (M := mk 15 n) (m := 15) hb (by decide) (by decide)
  simp only [Nat.shiftRight_zero] at h
  rw [e]
  refine h.trans ?_
  rw [show mk 15 1 = 15 from rfl]
  congr 1
  have m16 : ∀ z, z &&& 15 = z % 16 := fun z => Nat.and_two_pow_sub_one_eq_mod z 4
  rw [m16, m16]
  omega
theorem nib (n x : Nat) (h : x < 2 ^ (8 * n)) : sB n (sA n x) % 16 ≤ 4 := by
  cases n with
  | zero => simp at h; subst h; decide
  | succ n =>
    have e : x = 2 ^ 8 * (x / 2 ^ 8) + x % 2 ^ 8 := by omega
    obtain ⟨h1, h2, -, h4⟩ := byt1 (x % 2 ^ 8) (Nat.mod_lt _ (by decide))
    rw [e, sA_s n _ (Nat.mod_lt _ (by decide)), sB_s n _ h1]
    omega
theorem sABC (n y : Nat) {b : Nat} (hb : b < 2 ^ 8) (hy : y < 2 ^ (8 * n)) : sC (n + 1) (sB (n + 1) (sA (n + 1) (2 ^ 8 * y + b))) = 2 ^ 8 * sC n (sB n (sA n y)) + sC 1 (sB 1 (sA 1 b)) := by
  obtain ⟨h1, h2, h3, h4⟩ := byt1 b hb
  rw [sA_s n y hb, sB_s n _ h1, sC_s n _ h2 h3 (nib n y hy)]
theorem byt8 : ∀ b, b < 2 ^ 8 → sC 1 (sB 1 (sA 1 b)) ≤ 8 ∧ sC 1 (sB 1 (sA 1 b)) = bcn 8 b := by decide +kernel
