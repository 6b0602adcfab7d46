/-! pure 31: bitCount of a long -/
def tn (s : Int64) : Nat := s.toBitVec.toNat
theorem tn_lt (s : Int64) : tn s < 2 ^ 64 := s.toBitVec.isLt
theorem tn_and (a b : Int64) : tn (a &&& b) = tn a &&& tn b := by
  unfold tn
  rw [Int64.toBitVec_and, BitVec.toNat_and]
theorem tn_add {a b : Int64} (h : tn a + tn b < 2 ^ 64) : tn (a + b) = tn a + tn b := by
  unfold tn at h ⊢
  rw [Int64.toBitVec_add, BitVec.toNat_add, Nat.mod_eq_of_lt h]
theorem tn_sub {a b : Int64} (h : tn b ≤ tn a) : tn (a - b) = tn a - tn b := by
  have h1 := tn_lt a
  have h2 := tn_lt b
  unfold tn at h h1 h2 ⊢
  rw [Int64.toBitVec_sub, BitVec.toNat_sub]
  omega
theorem tn_shr (a : Int64) {k : Nat} (hk : k < 64) : tn (j_lushr a (nI k)) = tn a >>> k := by
  show (a.toUInt64 >>> ((nI k).toInt64.toUInt64 &&& Int64.toUInt64 63)).toNat = _
  rw [UInt64.toNat_shiftRight, p_sh k hk, Nat.mod_eq_of_lt hk]
  rfl
theorem tn_127 (z : Int64) : (j_l2i z &&& (127 : Int32)) = nI (tn z % 128) := by
  have h1 : ∀ i, i < 32 → (127 : Int32).toBitVec.getLsbD i = decide (i < 7) := by decide +kernel
  rw [← Int32.toBitVec_inj]
  apply BitVec.eq_of_getLsbD_eq
  intro i hi
  rw [Int32.toBitVec_and, BitVec.getLsbD_and, h1 i hi]
  show (z.toInt32.toBitVec.getLsbD i && decide (i < 7)) = (BitVec.ofNat 32 (tn z % 2 ^ 7)).getLsbD i
  rw [BitVec.getLsbD_ofNat, Nat.testBit_mod_two_pow, decide_eq_true hi, Bool.true_and, Int64.toBitVec_toInt32, BitVec.getLsbD_signExtend, if_pos (by omega), decide_eq_true hi, Bool.true_and, Bool.and_comm]
  rfl
def tt : Nat → Nat → Nat
  | 0, _ => 0
  | n + 1, x => 2 ^ 8 * tt n (x / 2 ^ 8) + bcn 8 (x % 2 ^ 8)
theorem tt_eq : ∀ n x, x < 2 ^ (8 * n) → sC n (sB n (sA n x)) = tt n x := by
  intro n
  induction n with
  | zero =>
    intro x _
    show ((sB 0 (sA 0 x)) + (sB 0 (sA 0 x)) >>> 4) &&& 0 = 0
    exact Nat.and_zero _
  | succ n ih =>
    intro x hx
    have hb : x % 2 ^ 8 < 2 ^ 8 := Nat.mod_lt _ (by decide)
    have hy : x / 2 ^ 8 < 2 ^ (8 * n) := by
      rw [Nat.div_lt_iff_lt_mul (by decide), ← Nat.pow_add]
      exact hx
    have e : x = 2 ^ 8 * (x / 2 ^ 8) + x % 2 ^ 8 := (Nat.div_add_mod x (2 ^ 8)).symm
    have h := sABC n (x / 2 ^ 8) hb hy
    rw [← e, ih _ hy, (byt8 _ hb).2] at h
    exact h
theorem bcn_le : ∀ n x, bcn n x ≤ n := by
  intro n
  induction n with
  | zero => intro x; exact Nat.le_refl _
  | succ n ih => intro x; unfold bcn; have := ih (x / 2); omega
theorem bcn_add : ∀ a b x, bcn (a + b) x = bcn a x + bcn b (x / 2 ^ a) := by
  intro a
  induction a with
  | zero => intro b x; rw [Nat.zero_add, Nat.pow_zero, Nat.div_one]; show bcn b x = 0 + bcn b x; omega
  | succ a ih =>
    intro b x
    rw [show a + 1 + b = (a + b) + 1 by omega]
    show x % 2 + bcn (a + b) (x / 2) = x % 2 + bcn a (x / 2) + bcn b (x / 2 ^ (a + 1))
    rw [ih b (x / 2), Nat.div_div_eq_div_mul, show 2 * 2 ^ a = 2 ^ (a + 1) by rw [Nat.pow_succ, Nat.mul_comm]]
    omega
theorem bcn_mod : ∀ a x, bcn a (x % 2 ^ a) = bcn a x := by
  intro a
  induction a with
  | zero => intro x; rfl
  | succ a ih =>
    intro x
    show x % 2 ^ (a + 1) % 2 + bcn a (x % 2 ^ (a + 1) / 2) = x % 2 + bcn a (x / 2)
    have e1 : x % 2 ^ (a + 1) % 2 = x % 2 := Nat.mod_mod_of_dvd x ⟨2 ^ a, by rw [Nat.pow_succ, Nat.mul_comm]⟩
    have e2 : x % 2 ^ (a + 1) / 2 = x / 2 % 2 ^ a := by
      rw [Nat.pow_succ, Nat.mul_comm, Nat.mod_mul_right_div_self]
    rw [e1, e2, ih]
theorem tt_sum (x : Nat) : ∃ c0 c1 c2 c3 c4 c5 c6 c7 t1 t2 t3 t4 t5 t6, c0 ≤ 8 ∧ c1 ≤ 8 ∧ c2 ≤ 8 ∧ c3 ≤ 8 ∧ c4 ≤ 8 ∧ c5 ≤ 8 ∧ c6 ≤ 8 ∧ c7 ≤ 8 ∧ tt 8 x = 256 * t1 + c0 ∧ t1 = 256 * t2 + c1 ∧ t2 = 256 * t3 + c2 ∧ t3 = 256 * t4 + c3 ∧ t4 = 256 * t5 + c4 ∧ t5 = 256 * t6 + c5 ∧ t6 = 256 * c7 + c6 ∧ bcn 64 x = c0 + (c1 + (c2 + (c3 + (c4 + (c5 + (c6 + c7)))))) := by
  have h : ∀ n x, tt (n + 1) x = 256 * tt n (x / 256) + bcn 8 x := fun n x => by
    show 2 ^ 8 * tt n (x / 2 ^ 8) + bcn 8 (x % 2 ^ 8) = _
    rw [bcn_mod]
  have b : ∀ n x, bcn (8 + n) x = bcn 8 x + bcn n (x / 256) := fun n x => bcn_add 8 n x
  refine ⟨bcn 8 x, bcn 8 (x / 256), bcn 8 (x / 256 / 256), bcn 8 (x / 256 / 256 / 256), bcn 8 (x / 256 / 256 / 256 / 256), bcn 8 (x / 256 / 256 / 256 / 256 / 256), bcn 8 (x / 256 / 256 / 256 / 256 / 256 / 256), bcn 8 (x / 256 / 256 / 256 / 256 / 256 / 256 / 256), _, _, _, _, _, _, bcn_le _ _, bcn_le _ _, bcn_le _ _, bcn_le _ _, bcn_le _ _, bcn_le _ _, bcn_le _ _, bcn_le _ _, h 7 x, h 6 _, h 5 _, h 4 _, h 3 _, h 2 _, ?_, ?_⟩
  · rw [h 1, h 0]
    show 256 * (256 * 0 + _) + _ = _
    omega
  · rw [show (64 : Nat) = 8 + 56 from rfl, b, show (56 : Nat) = 8 + 48 from rfl, b, show (48 : Nat) = 8 + 40 from rfl, b, show (40 : Nat) = 8 + 32 from rfl, b, show (32 : Nat) = 8 + 24 from rfl, b, show (24 : Nat) = 8 + 16 from rfl, b, show (16 : Nat) = 8 + 8 from rfl, b]
/-- the last three turns: all bytes come together -/
theorem fA {t t' c B : Nat} (e : t = 256 * t' + c) (hc : c ≤ 8) (h : t' < B) : t < 256 * B := by omega
theorem fU {t0 t1 t2 c0 c1 : Nat} (e0 : t0 = 256 * t1 + c0) (e1 : t1 = 256 * t2 + c1) : t0 + t1 = 256 * (t1 + t2) + (c0 + c1) := by omega
theorem fV {u0 u1 u2 u3 a b : Nat} (e0 : u0 = 256 * u1 + a) (e2 : u2 = 256 * u3 + b) : u0 + u2 = 256 * (u1 + u3) + (a + b) := by omega
theorem fD {u u' c : Nat} (e : u = 256 * u' + c) (hc : c < 256) : u / 256 = u' := by omega
theorem fM {v w x y a b : Nat} (e : v = 256 * x + a) (e2 : w = 256 * y + b) (h : a + b < 128) : (v + w) % 128 = a + b := by omega
theorem fS (x : Nat) : x >>> 8 = x / 256 ∧ x >>> 16 = x / 256 / 256 ∧ x >>> 32 = x / 256 / 256 / 256 / 256 := by
  refine ⟨Nat.shiftRight_eq_div_pow x 8, ?_, ?_⟩
  · rw [Nat.shiftRight_eq_div_pow, Nat.div_div_eq_div_mul]
  · rw [Nat.shiftRight_eq_div_pow, Nat.div_div_eq_div_mul, Nat.div_div_eq_div_mul, Nat.div_div_eq_div_mul]
theorem f4 {a b c d : Nat} (h0 : a ≤ 8) (h1 : b ≤ 8) (h2 : c ≤ 8) (h3 : d ≤ 8) : a + b < 256 ∧ a + b + (c + d) < 256 ∧ a + b + (c + d) ≤ 32 := by omega
theorem fin3 {c0 c1 c2 c3 c4 c5 c6 c7 t0 t1 t2 t3 t4 t5 t6 : Nat} (h0 : c0 ≤ 8) (h1 : c1 ≤ 8) (h2 : c2 ≤ 8) (h3 : c3 ≤ 8) (h4 : c4 ≤ 8) (h5 : c5 ≤ 8) (h6 : c6 ≤ 8) (h7 : c7 ≤ 8) (e0 : t0 = 256 * t1 + c0) (e1 : t1 = 256 * t2 + c1) (e2 : t2 = 256 * t3 + c2) (e3 : t3 = 256 * t4 + c3) (e4 : t4 = 256 * t5 + c4) (e5 : t5 = 256 * t6 + c5) (e6 : t6 = 256 * c7 + c6) : t0 < 2 ^ 60 ∧ (((t0 + t0 >>> 8) + (t0 + t0 >>> 8) >>> 16) + ((t0 + t0 >>> 8) + (t0 + t0 >>> 8) >>> 16) >>> 32) % 128 = c0 + c1 + (c2 + c3) + (c4 + c5 + (c6 + c7)) := by
  have b7 : c7 < 9 := Nat.lt_succ_of_le h7
  have b0 := fA e0 h0 (fA e1 h1 (fA e2 h2 (fA e3 h3 (fA e4 h4 (fA e5 h5 (fA e6 h6 b7))))))
  have g0 := fU e0 e1
  have g1 := fU e1 e2
  have g2 := fU e2 e3
  have g3 := fU e3 e4
  have g4 := fU e4 e5
  have g5 := fU e5 e6
  have g6 : t6 + c7 = 256 * c7 + (c6 + c7) := by rw [e6, Nat.add_assoc]
  have k0 := fV g0 g2
  have k1 := fV g1 g3
  have k2 := fV g2 g4
  have k3 := fV g3 g5
  have k4 := fV g4 g6
  have q1 : t0 >>> 8 = t1 := by rw [(fS t0).1]; exact fD e0 (Nat.lt_of_le_of_lt h0 (by decide))
  have q2 : (t0 + t1) >>> 16 = t2 + t3 := by rw [(fS _).2.1, fD g0 (f4 h0 h1 h0 h0).1, fD g1 (f4 h1 h2 h0 h0).1]
  have q3 : (t0 + t1 + (t2 + t3)) >>> 32 = t4 + t5 + (t6 + c7) := by rw [(fS _).2.2, fD k0 (f4 h0 h1 h2 h3).2.1, fD k1 (f4 h1 h2 h3 h4).2.1, fD k2 (f4 h2 h3 h4 h5).2.1, fD k3 (f4 h3 h4 h5 h6).2.1]
  rw [q1, q2, q3]
  refine ⟨Nat.lt_trans b0 (by decide), ?_⟩
  exact fM k0 k4 (Nat.lt_of_le_of_lt (Nat.add_le_add (f4 h0 h1 h2 h3).2.2 (f4 h4 h5 h6 h7).2.2) (by decide))
theorem fB {t : Nat} (h : t < 2 ^ 60) : t + t >>> 8 < 2 ^ 61 ∧ (t + t >>> 8) + (t + t >>> 8) >>> 16 < 2 ^ 62 := by
  have s : ∀ x k : Nat, x >>> k ≤ x := fun x k => by rw [Nat.shiftRight_eq_div_pow]; exact Nat.div_le_self _ _
  have h1 := s t 8
  have h2 := s (t + t >>> 8) 16
  constructor <;> omega
theorem fF (x : Nat) : tt 8 x < 2 ^ 60 ∧ (((tt 8 x + tt 8 x >>> 8) + (tt 8 x + tt 8 x >>> 8) >>> 16) + ((tt 8 x + tt 8 x >>> 8) + (tt 8 x + tt 8 x >>> 8) >>> 16) >>> 32) % 128 = bcn 64 x := by
  obtain ⟨c0, c1, c2, c3, c4, c5, c6, c7, t1, t2, t3, t4, t5, t6, h0, h1, h2, h3, h4, h5, h6, h7, e0, e1, e2, e3, e4, e5, e6, es⟩ := tt_sum x
  obtain ⟨r0, r1⟩ := fin3 h0 h1 h2 h3 h4 h5 h6 h7 e0 e1 e2 e3 e4 e5 e6
  refine ⟨r0, r1.trans ?_⟩
  rw [es]
  clear r0 r1 e0 e1 e2 e3 e4 e5 e6 es h0 h1 h2 h3 h4 h5 h6 h7
  omega
theorem fX {a b M : Nat} (h : M < 2 ^ 62) : (a &&& M) + (b &&& M) < 2 ^ 63 := by
  have l1 : a &&& M ≤ M := Nat.and_le_right
  have l2 : b &&& M ≤ M := Nat.and_le_right
  omega
theorem p_bitCount (X : Int64) : s_Lng_bitCount X = some (nI (bcn 64 (tn X))) := by
  unfold s_Lng_bitCount j_let
  have m5 : tn 6148914691236517205 = mk 85 8 := by decide +kernel
  have m3 : tn 3689348814741910323 = mk 51 8 := by decide +kernel
  have mf : tn 1085102592571150095 = mk 15 8 := by decide +kernel
  have n3 : mk 51 8 < 2 ^ 62 := by decide +kernel
  have hx := tn_lt X
  have sl : ∀ x k : Nat, x >>> k ≤ x := fun x k => by rw [Nat.shiftRight_eq_div_pow]; exact Nat.div_le_self _ _
  obtain ⟨A, hA⟩ : ∃ A, A = X - (j_lushr X (1 : Int32) &&& 6148914691236517205) := ⟨_, rfl⟩
  have tA : tn A = sA 8 (tn X) := by
    have e : tn (j_lushr X (1 : Int32) &&& 6148914691236517205) = (tn X >>> 1) &&& mk 85 8 := by
      rw [tn_and, m5, show (1 : Int32) = nI 1 from rfl, tn_shr X (by decide)]
    have l : (tn X >>> 1) &&& mk 85 8 ≤ tn X := Nat.le_trans Nat.and_le_left (sl _ _)
    rw [hA, tn_sub (by rw [e]; exact l), e]
    rfl
  obtain ⟨B, hB⟩ : ∃ B, B = (A &&& 3689348814741910323) + (j_lushr A (2 : Int32) &&& 3689348814741910323) := ⟨_, rfl⟩
  have lB0 : (tn A &&& mk 51 8) + ((tn A >>> 2) &&& mk 51 8) < 2 ^ 63 := fX n3
  have tB : tn B = sB 8 (tn A) := by
    have e1 : tn (A &&& 3689348814741910323) = tn A &&& mk 51 8 := by rw [tn_and, m3]
    have e2 : tn (j_lushr A (2 : Int32) &&& 3689348814741910323) = (tn A >>> 2) &&& mk 51 8 := by
      rw [tn_and, m3, show (2 : Int32) = nI 2 from rfl, tn_shr A (by decide)]
    rw [hB, tn_add (by rw [e1, e2]; exact Nat.lt_trans lB0 (by decide)), e1, e2]
    rfl
  have lB : tn B < 2 ^ 63 := by
    rw [tB]
    exact lB0
  obtain ⟨C, hC⟩ : ∃ C, C = (B + j_lushr B (4 : Int32)) &&& 1085102592571150095 := ⟨_, rfl⟩
  have tC : tn C = sC 8 (tn B) := by
    have e1 : tn (j_lushr B (4 : Int32)) = tn B >>> 4 := by rw [show (4 : Int32) = nI 4 from rfl, tn_shr B (by decide)]
    rw [hC, tn_and, mf, tn_add (by rw [e1]; exact Nat.lt_of_lt_of_le (Nat.add_lt_add_of_lt_of_le lB (sl _ _)) (Nat.add_le_add_left (Nat.le_of_lt lB) _)), e1]
    rfl
  have tC2 : tn C = tt 8 (tn X) := by rw [tC, tB, tA, tt_eq 8 _ hx]
  obtain ⟨r0, r3⟩ := fF (tn X)
  rw [← tC2] at r0 r3
  obtain ⟨r1, r2⟩ := fB r0
  have w1 : tn (C + j_lushr C (8 : Int32)) = tn C + tn C >>> 8 := by
    have e : tn (j_lushr C (8 : Int32)) = tn C >>> 8 := by rw [show (8 : Int32) = nI 8 from rfl, tn_shr C (by decide)]
    rw [tn_add (by rw [e]; exact Nat.lt_trans r1 (by decide)), e]
  obtain ⟨D, hD⟩ : ∃ D, D = C + j_lushr C (8 : Int32) := ⟨_, rfl⟩
  rw [← hD] at w1
  rw [← w1] at r1 r2 r3
  have w2 : tn (D + j_lushr D (16 : Int32)) = tn D + tn D >>> 16 := by
    have e : tn (j_lushr D (16 : Int32)) = tn D >>> 16 := by rw [show (16 : Int32) = nI 16 from rfl, tn_shr D (by decide)]
    rw [tn_add (by rw [e]; exact Nat.lt_trans r2 (by decide)), e]
  obtain ⟨G, hG⟩ : ∃ G, G = D + j_lushr D (16 : Int32) := ⟨_, rfl⟩
  rw [← hG] at w2
  rw [← w2] at r2 r3
  have w3 : tn (G + j_lushr G (32 : Int32)) = tn G + tn G >>> 32 := by
    have e : tn (j_lushr G (32 : Int32)) = tn G >>> 32 := by rw [show (32 : Int32) = nI 32 from rfl, tn_shr G (by decide)]
    rw [tn_add (by rw [e]; exact Nat.lt_trans (Nat.add_lt_add_of_lt_of_le r2 (Nat.le_trans (sl _ _) (Nat.le_of_lt r2))) (by decide)), e]
  rw [← hA, ← hB]
  dsimp only
  rw [← hC, ← hD, ← hG, tn_127, w3, r3]
