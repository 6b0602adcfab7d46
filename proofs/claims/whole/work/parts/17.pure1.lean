/-! pure 1: numbers, bits, the first row that holds -/
theorem p_lit (n : Nat) : (OfNat.ofNat n : Int32) = nI n := rfl
theorem p_m1 : (-1 : Int32) = -1 := rfl
theorem p_chk {α : Type} {i N : Nat} {x : Option α} (h : i < N) (hN : N < 2 ^ 31) : j_chk (nI i) N x = x := if_neg (vp_in_nI h hN)
theorem p_dv {α : Type} {y : Int32} {x : Option α} (h : ¬ y = 0) : j_dv y x = x := if_neg h
theorem p_bz {α : Type} {v : Int32} {x : Option α} (h : v = 0 ∨ v = 1) : j_bz v x = x := if_pos h
theorem p_ix (x : Int32) (n : Nat) (hn : n < 2 ^ 31) : (x < 0 ∨ nI n ≤ x) ∨ ∃ j : Nat, j < n ∧ x = nI j := by
  rcases pk_ix x hn with h | h | h
  · exact Or.inl (Or.inl h)
  · exact Or.inl (Or.inr h)
  · exact Or.inr h
theorem p_nlt0 {n : Nat} (h : n < 2 ^ 31) : ¬ nI n < 0 := nI_pos h
/-- bits of a long -/
def bL (s : Int64) (c : Nat) : Bool := s.toBitVec.getLsbD c
theorem bL_or (x y : Int64) (c : Nat) : bL (x ||| y) c = (bL x c || bL y c) := by
  unfold bL
  rw [Int64.toBitVec_or, BitVec.getLsbD_or]
theorem bL_and (x y : Int64) (c : Nat) : bL (x &&& y) c = (bL x c && bL y c) := by
  unfold bL
  rw [Int64.toBitVec_and, BitVec.getLsbD_and]
theorem bL_not (x : Int64) {c : Nat} (hc : c < 64) : bL (x ^^^ (-1)) c = !bL x c := by
  have h : ∀ k, k < 64 → bL (-1) k = true := by decide +kernel
  have h1 := h c hc
  unfold bL at h1 ⊢
  rw [Int64.toBitVec_xor, BitVec.getLsbD_xor, h1]
  simp
theorem bL_0 (c : Nat) : bL 0 c = false := by
  unfold bL
  simp
theorem bL_one : ∀ a, a < 64 → ∀ c, c < 64 → bL (j_lshl (1 : Int64) (nI a)) c = decide (c = a) := by decide +kernel
theorem bL_ext {x y : Int64} (h : ∀ c, c < 64 → bL x c = bL y c) : x = y := by
  apply Int64.toBitVec_inj.mp
  apply BitVec.eq_of_getLsbD_eq
  intro i hi
  exact h i hi
theorem p_cmp0 (x : Int64) : lg_cmp x 0 = 0 ↔ x = 0 := by
  unfold lg_cmp
  constructor
  · intro h
    by_cases c : x > 0
    · rw [if_pos c] at h; exact absurd h (by decide)
    · rw [if_neg c] at h
      by_cases d : x = 0
      · exact d
      · rw [if_neg d] at h; exact absurd h (by decide)
  · intro h
    subst h
    decide
theorem p_cmp1 (x : Int64) : lg_cmp x 1 = 0 ↔ x = 1 := by
  unfold lg_cmp
  constructor
  · intro h
    by_cases c : x > 1
    · rw [if_pos c] at h; exact absurd h (by decide)
    · rw [if_neg c] at h
      by_cases d : x = 1
      · exact d
      · rw [if_neg d] at h; exact absurd h (by decide)
  · intro h
    subst h
    decide
theorem p_sh : ∀ k, k < 64 → ((nI k).toInt64.toUInt64 &&& Int64.toUInt64 63).toNat = k := by decide +kernel
theorem ts_bit {w : Int64} {s : UInt64} {j : Nat} (hj : j < 64) (hs : s.toNat = j) : ((w.toUInt64 >>> s).toInt64 &&& 1) = 0 ↔ w.toBitVec.getLsbD j = false := by
  have e : (w.toUInt64 >>> s).toInt64.toBitVec = w.toBitVec >>> j := by
    apply BitVec.eq_of_toNat_eq
    show (w.toUInt64 >>> s).toNat = _
    rw [UInt64.toNat_shiftRight, hs, Nat.mod_eq_of_lt hj, BitVec.toNat_ushiftRight]
    rfl
  rw [← Int64.toBitVec_inj, Int64.toBitVec_and, e]
  show w.toBitVec >>> j &&& 1#64 = 0#64 ↔ _
  constructor
  · intro h
    have t := congrArg (fun x => x.getLsbD 0) h
    simpa using t
  · intro h
    apply BitVec.eq_of_getLsbD_eq
    intro i hi
    cases i with
    | zero => simp [h]
    | succ i => simp
theorem p_isIn (s : Int64) {c : Nat} (hc : c < 64) : s_Grid_isIn s (nI c) = some (if bL s c then 1 else 0) := by
  have h : (j_lushr s (nI c) &&& 1) = 0 ↔ bL s c = false := ts_bit hc (p_sh c hc)
  unfold s_Grid_isIn
  by_cases b : bL s c = true
  · rw [if_neg (fun z => by rw [p_cmp0, h, b] at z; cases z), if_pos b]
  · rw [if_pos (by rw [p_cmp0, h]; simpa using b), if_neg b]
/-- the first of m rows from i on that holds, as an int; -1: none -/
def fd (p : Nat → Bool) : Nat → Nat → Int32
  | 0, _ => -1
  | m + 1, i => if p i then nI i else fd p m (i + 1)
theorem fd_congr {p q : Nat → Bool} : ∀ (m i : Nat), (∀ j, i ≤ j → j < i + m → p j = q j) → fd p m i = fd q m i := by
  intro m
  induction m with
  | zero => intro i _; rfl
  | succ m ih =>
    intro i h
    unfold fd
    rw [h i (Nat.le_refl _) (by omega), ih (i + 1) (fun j h1 h2 => h j (by omega) (by omega))]
theorem fd_some {p : Nat → Bool} : ∀ (m i : Nat), (fd p m i = -1 ∧ ∀ j, i ≤ j → j < i + m → p j = false) ∨ ∃ j, i ≤ j ∧ j < i + m ∧ p j = true ∧ fd p m i = nI j := by
  intro m
  induction m with
  | zero => intro i; exact Or.inl ⟨rfl, fun j h1 h2 => absurd h2 (by omega)⟩
  | succ m ih =>
    intro i
    unfold fd
    by_cases c : p i = true
    · rw [if_pos c]; exact Or.inr ⟨i, Nat.le_refl _, by omega, c, rfl⟩
    · rw [if_neg c]
      rcases ih (i + 1) with ⟨h1, h2⟩ | ⟨j, h1, h2, h3, h4⟩
      · refine Or.inl ⟨h1, fun j h3 h4 => ?_⟩
        by_cases e : j = i
        · subst e; simpa using c
        · exact h2 j (by omega) (by omega)
      · exact Or.inr ⟨j, by omega, by omega, h3, h4⟩
theorem fd_neg {p : Nat → Bool} {m : Nat} (hm : m < 2 ^ 31) : (0 ≤ fd p m 0) ↔ ∃ j, j < m ∧ p j = true := by
  rcases fd_some (p := p) m 0 with ⟨h1, h2⟩ | ⟨j, h1, h2, h3, h4⟩
  · rw [h1]
    constructor
    · intro h; exact absurd h (by decide)
    · intro ⟨j, h3, h4⟩
      rw [h2 j (by omega) (by omega)] at h4
      cases h4
  · rw [h4]
    exact ⟨fun _ => ⟨j, by omega, h3⟩, fun _ => nI_pos' (by omega)⟩
theorem p_b0 { β : Type} {k : Option β} : j_b0 (some ()) k = k := rfl
theorem p_b1 {α0 β : Type} {a0 : α0} {k : α0 → Option β} : j_b1 (some a0) k = k a0 := rfl
theorem p_b2 {α0 α1 β : Type} {a0 : α0} {a1 : α1} {k : α0 → α1 → Option β} : j_b2 (some (a0, a1)) k = k a0 a1 := rfl
theorem p_b3 {α0 α1 α2 β : Type} {a0 : α0} {a1 : α1} {a2 : α2} {k : α0 → α1 → α2 → Option β} : j_b3 (some (a0, a1, a2)) k = k a0 a1 a2 := rfl
theorem p_b4 {α0 α1 α2 α3 β : Type} {a0 : α0} {a1 : α1} {a2 : α2} {a3 : α3} {k : α0 → α1 → α2 → α3 → Option β} : j_b4 (some (a0, a1, a2, a3)) k = k a0 a1 a2 a3 := rfl
theorem p_b5 {α0 α1 α2 α3 α4 β : Type} {a0 : α0} {a1 : α1} {a2 : α2} {a3 : α3} {a4 : α4} {k : α0 → α1 → α2 → α3 → α4 → Option β} : j_b5 (some (a0, a1, a2, a3, a4)) k = k a0 a1 a2 a3 a4 := rfl
theorem p_b6 {α0 α1 α2 α3 α4 α5 β : Type} {a0 : α0} {a1 : α1} {a2 : α2} {a3 : α3} {a4 : α4} {a5 : α5} {k : α0 → α1 → α2 → α3 → α4 → α5 → Option β} : j_b6 (some (a0, a1, a2, a3, a4, a5)) k = k a0 a1 a2 a3 a4 a5 := rfl
theorem p_b7 {α0 α1 α2 α3 α4 α5 α6 β : Type} {a0 : α0} {a1 : α1} {a2 : α2} {a3 : α3} {a4 : α4} {a5 : α5} {a6 : α6} {k : α0 → α1 → α2 → α3 → α4 → α5 → α6 → Option β} : j_b7 (some (a0, a1, a2, a3, a4, a5, a6)) k = k a0 a1 a2 a3 a4 a5 a6 := rfl
theorem p_b8 {α0 α1 α2 α3 α4 α5 α6 α7 β : Type} {a0 : α0} {a1 : α1} {a2 : α2} {a3 : α3} {a4 : α4} {a5 : α5} {a6 : α6} {a7 : α7} {k : α0 → α1 → α2 → α3 → α4 → α5 → α6 → α7 → Option β} : j_b8 (some (a0, a1, a2, a3, a4, a5, a6, a7)) k = k a0 a1 a2 a3 a4 a5 a6 a7 := rfl
theorem p_b9 {α0 α1 α2 α3 α4 α5 α6 α7 α8 β : Type} {a0 : α0} {a1 : α1} {a2 : α2} {a3 : α3} {a4 : α4} {a5 : α5} {a6 : α6} {a7 : α7} {a8 : α8} {k : α0 → α1 → α2 → α3 → α4 → α5 → α6 → α7 → α8 → Option β} : j_b9 (some (a0, a1, a2, a3, a4, a5, a6, a7, a8)) k = k a0 a1 a2 a3 a4 a5 a6 a7 a8 := rfl
theorem p_b10 {α0 α1 α2 α3 α4 α5 α6 α7 α8 α9 β : Type} {a0 : α0} {a1 : α1} {a2 : α2} {a3 : α3} {a4 : α4} {a5 : α5} {a6 : α6} {a7 : α7} {a8 : α8} {a9 : α9} {k : α0 → α1 → α2 → α3 → α4 → α5 → α6 → α7 → α8 → α9 → Option β} : j_b10 (some (a0, a1, a2, a3, a4, a5, a6, a7, a8, a9)) k = k a0 a1 a2 a3 a4 a5 a6 a7 a8 a9 := rfl
theorem p_b11 {α0 α1 α2 α3 α4 α5 α6 α7 α8 α9 α10 β : Type} {a0 : α0} {a1 : α1} {a2 : α2} {a3 : α3} {a4 : α4} {a5 : α5} {a6 : α6} {a7 : α7} {a8 : α8} {a9 : α9} {a10 : α10} {k : α0 → α1 → α2 → α3 → α4 → α5 → α6 → α7 → α8 → α9 → α10 → Option β} : j_b11 (some (a0, a1, a2, a3, a4, a5, a6, a7, a8, a9, a10)) k = k a0 a1 a2 a3 a4 a5 a6 a7 a8 a9 a10 := rfl
theorem p_b12 {α0 α1 α2 α3 α4 α5 α6 α7 α8 α9 α10 α11 β : Type} {a0 : α0} {a1 : α1} {a2 : α2} {a3 : α3} {a4 : α4} {a5 : α5} {a6 : α6} {a7 : α7} {a8 : α8} {a9 : α9} {a10 : α10} {a11 : α11} {k : α0 → α1 → α2 → α3 → α4 → α5 → α6 → α7 → α8 → α9 → α10 → α11 → Option β} : j_b12 (some (a0, a1, a2, a3, a4, a5, a6, a7, a8, a9, a10, a11)) k = k a0 a1 a2 a3 a4 a5 a6 a7 a8 a9 a10 a11 := rfl
theorem p_b13 {α0 α1 α2 α3 α4 α5 α6 α7 α8 α9 α10 α11 α12 β : Type} {a0 : α0} {a1 : α1} {a2 : α2} {a3 : α3} {a4 : α4} {a5 : α5} {a6 : α6} {a7 : α7} {a8 : α8} {a9 : α9} {a10 : α10} {a11 : α11} {a12 : α12} {k : α0 → α1 → α2 → α3 → α4 → α5 → α6 → α7 → α8 → α9 → α10 → α11 → α12 → Option β} : j_b13 (some (a0, a1, a2, a3, a4, a5, a6, a7, a8, a9, a10, a11, a12)) k = k a0 a1 a2 a3 a4 a5 a6 a7 a8 a9 a10 a11 a12 := rfl
theorem p_b14 {α0 α1 α2 α3 α4 α5 α6 α7 α8 α9 α10 α11 α12 α13 β : Type} {a0 : α0} {a1 : α1} {a2 : α2} {a3 : α3} {a4 : α4} {a5 : α5} {a6 : α6} {a7 : α7} {a8 : α8} {a9 : α9} {a10 : α10} {a11 : α11} {a12 : α12} {a13 : α13} {k : α0 → α1 → α2 → α3 → α4 → α5 → α6 → α7 → α8 → α9 → α10 → α11 → α12 → α13 → Option β} : j_b14 (some (a0, a1, a2, a3, a4, a5, a6, a7, a8, a9, a10, a11, a12, a13)) k = k a0 a1 a2 a3 a4 a5 a6 a7 a8 a9 a10 a11 a12 a13 := rfl
theorem p_b15 {α0 α1 α2 α3 α4 α5 α6 α7 α8 α9 α10 α11 α12 α13 α14 β : Type} {a0 : α0} {a1 : α1} {a2 : α2} {a3 : α3} {a4 : α4} {a5 : α5} {a6 : α6} {a7 : α7} {a8 : α8} {a9 : α9} {a10 : α10} {a11 : α11} {a12 : α12} {a13 : α13} {a14 : α14} {k : α0 → α1 → α2 → α3 → α4 → α5 → α6 → α7 → α8 → α9 → α10 → α11 → α12 → α13 → α14 → Option β} : j_b15 (some (a0, a1, a2, a3, a4, a5, a6, a7, a8, a9, a10, a11, a12, a13, a14)) k = k a0 a1 a2 a3 a4 a5 a6 a7 a8 a9 a10 a11 a12 a13 a14 := rfl
theorem p_b16 {α0 α1 α2 α3 α4 α5 α6 α7 α8 α9 α10 α11 α12 α13 α14 α15 β : Type} {a0 : α0} {a1 : α1} {a2 : α2} {a3 : α3} {a4 : α4} {a5 : α5} {a6 : α6} {a7 : α7} {a8 : α8} {a9 : α9} {a10 : α10} {a11 : α11} {a12 : α12} {a13 : α13} {a14 : α14} {a15 : α15} {k : α0 → α1 → α2 → α3 → α4 → α5 → α6 → α7 → α8 → α9 → α10 → α11 → α12 → α13 → α14 → α15 → Option β} : j_b16 (some (a0, a1, a2, a3, a4, a5, a6, a7, a8, a9, a10, a11, a12, a13, a14, a15)) k = k a0 a1 a2 a3 a4 a5 a6 a7 a8 a9 a10 a11 a12 a13 a14 a15 := rfl
theorem p_b17 {α0 α1 α2 α3 α4 α5 α6 α7 α8 α9 α10 α11 α12 α13 α14 α15 α16 β : Type} {a0 : α0} {a1 : α1} {a2 : α2} {a3 : α3} {a4 : α4} {a5 : α5} {a6 : α6} {a7 : α7} {a8 : α8} {a9 : α9} {a10 : α10} {a11 : α11} {a12 : α12} {a13 : α13} {a14 : α14} {a15 : α15} {a16 : α16} {k : α0 → α1 → α2 → α3 → α4 → α5 → α6 → α7 → α8 → α9 → α10 → α11 → α12 → α13 → α14 → α15 → α16 → Option β} : j_b17 (some (a0, a1, a2, a3, a4, a5, a6, a7, a8, a9, a10, a11, a12, a13, a14, a15, a16)) k = k a0 a1 a2 a3 a4 a5 a6 a7 a8 a9 a10 a11 a12 a13 a14 a15 a16 := rfl
theorem p_b18 {α0 α1 α2 α3 α4 α5 α6 α7 α8 α9 α10 α11 α12 α13 α14 α15 α16 α17 β : Type} {a0 : α0} {a1 : α1} {a2 : α2} {a3 : α3} {a4 : α4} {a5 : α5} {a6 : α6} {a7 : α7} {a8 : α8} {a9 : α9} {a10 : α10} {a11 : α11} {a12 : α12} {a13 : α13} {a14 : α14} {a15 : α15} {a16 : α16} {a17 : α17} {k : α0 → α1 → α2 → α3 → α4 → α5 → α6 → α7 → α8 → α9 → α10 → α11 → α12 → α13 → α14 → α15 → α16 → α17 → Option β} : j_b18 (some (a0, a1, a2, a3, a4, a5, a6, a7, a8, a9, a10, a11, a12, a13, a14, a15, a16, a17)) k = k a0 a1 a2 a3 a4 a5 a6 a7 a8 a9 a10 a11 a12 a13 a14 a15 a16 a17 := rfl
/-! pure 2: things lie, slide, fall -/
theorem p_of {R : Nat → Int32} {t w : Nat} (ht : t < 6) (hw : w < 5) : s_M_of (nI t) (nI w) R = some (R (41 + 5 * t + w)) := by
  have e : ((41 : Int32) + ((5 : Int32) * nI t)) + nI w = nI (41 + 5 * t + w) := by rw [p_lit 41, p_lit 5, pk_mul, nI_add, nI_add]
  unfold s_M_of
  rw [e, p_chk (by omega) (by omega), nI_clamp (by omega)]
theorem p_lay {R : Nat → Int32} {t w : Nat} (v : Int32) (ht : t < 6) (hw : w < 5) : s_M_lay (nI t) (nI w) v R = some (upd R (41 + 5 * t + w) v) := by
  have e : ((41 : Int32) + ((5 : Int32) * nI t)) + nI w = nI (41 + 5 * t + w) := by rw [p_lit 41, p_lit 5, pk_mul, nI_add, nI_add]
  unfold s_M_lay
  rw [e, p_chk (by omega) (by omega), nI_clamp (by omega)]
theorem p_isWall {R : Nat → Int32} {c : Nat} (hc : c < 36) : s_M_isWall (nI c) R = some (if R (5 + c) = 1 then 1 else 0) := by
  have e : ((5 : Int32) + nI c) = nI (5 + c) := by rw [p_lit 5, nI_add]
  unfold s_M_isWall
  rw [e, p_chk (by omega) (by omega), nI_clamp (by omega)]
  by_cases h : R (5 + c) = 1
  · rw [if_pos h, if_pos h]
  · rw [if_neg h, if_neg h]
theorem p_tin (x : Int32) (cell : Nat → Int32) {n : Nat} (hn : n ≤ 6) : s_Things_inCell x cell (nI n) = some (fd (fun t => decide (cell t = x)) n 0) := by
  have key : ∀ (k m i : Nat), i + m = n → m < k → s_Things_inCell_c2 x cell (nI n) k (nI i) = some (fd (fun t => decide (cell t = x)) m i) := by
    intro k
    induction k with
    | zero => intro m i _ h; exact absurd h (Nat.not_lt_zero _)
    | succ k ih =>
      intro m i h1 h2
      rw [s_Things_inCell_c2]
      cases m with
      | zero =>
        rw [if_pos (nI_le (by omega) (by omega))]; rfl
      | succ m =>
        rw [if_neg (nI_ge (by omega) (by omega)), if_neg (show ¬ (6 : Int32) ≤ nI i from nI_ge (b := 6) (by omega) (by omega)), p_chk (by omega) (by omega), nI_clamp (by omega), nI_1]
        unfold fd
        by_cases c : cell i = x
        · rw [if_pos c, if_pos (by simpa using c)]
        · rw [if_neg c, if_neg (by simpa using c)]
          exact ih m (i + 1) (by omega) (by omega)
  exact key 400 n 0 (by omega) (by omega)
theorem p_min (x : Int32) (R : Nat → Int32) {n : Nat} (hn : n ≤ 6) (hR : R 2 = nI n) : s_M_inCell x R = some (fd (fun t => decide (R (43 + 5 * t) = x)) n 0) := by
  have key : ∀ (k m i : Nat), i + m = n → m < k → s_M_inCell_c2 x R k (nI i) = some (fd (fun t => decide (R (43 + 5 * t) = x)) m i) := by
    intro k
    induction k with
    | zero => intro m i _ h; exact absurd h (Nat.not_lt_zero _)
    | succ k ih =>
      intro m i h1 h2
      rw [s_M_inCell_c2, show (2 : Int32).toNatClampNeg = 2 from rfl, hR]
      cases m with
      | zero =>
        rw [if_pos (nI_le (by omega) (by omega))]; rfl
      | succ m =>
        rw [if_neg (nI_ge (by omega) (by omega)), p_lit 2, p_of (by omega) (by omega), p_b1, nI_1, show 41 + 5 * i + 2 = 43 + 5 * i by omega]
        unfold fd
        by_cases c : R (43 + 5 * i) = x
        · rw [if_pos c, if_pos (by simpa using c)]
        · rw [if_neg c, if_neg (by simpa using c)]
          exact ih m (i + 1) (by omega) (by omega)
  exact key 400 n 0 (by omega) (by omega)
/-- the next cell one way; 99: none -/
def nx (c w : Nat) : Nat := if w = 0 then (if c + 6 < 36 then c + 6 else 99) else if w = 1 then (if 0 < c % 6 then c - 1 else 99) else if w = 2 then (if 6 ≤ c then c - 6 else 99) else (if c % 6 < 5 then c + 1 else 99)
theorem p_next : ∀ c, c < 36 → ∀ w, w < 4 → s_Grid_next (nI c) (nI w) = some (if nx c w < 36 then nI (nx c w) else -1) := by decide +kernel
theorem p_nextTo : ∀ c, c < 36 → ∀ w, w < 4 → s_M_nextTo (nI c) (nI w) = some (if nx c w < 36 then nI (nx c w) else -1) := by decide +kernel
theorem nx_ne : ∀ c, c < 36 → ∀ w, w < 4 → nx c w ≠ c := by decide +kernel
/-- how far one slides, and where to -/
def slk (fr : Nat → Bool) (w : Nat) : Nat → Nat → Nat
  | 0, _ => 0
  | m + 1, c => if nx c w < 36 ∧ fr (nx c w) = true then slk fr w m (nx c w) + 1 else 0
def slc (fr : Nat → Bool) (w : Nat) : Nat → Nat → Nat
  | 0, c => c
  | m + 1, c => if nx c w < 36 ∧ fr (nx c w) = true then slc fr w m (nx c w) else c
theorem slc_lt {fr : Nat → Bool} {w : Nat} : ∀ m c, c < 36 → slc fr w m c < 36 := by
  intro m
  induction m with
  | zero => intro c h; exact h
  | succ m ih =>
    intro c h
    unfold slc
    by_cases q : nx c w < 36 ∧ fr (nx c w) = true
    · rw [if_pos q]; exact ih _ q.1
    · rw [if_neg q]; exact h
theorem slc_or {fr : Nat → Bool} {w : Nat} : ∀ m c, slc fr w m c = c ∨ fr (slc fr w m c) = true := by
  intro m
  induction m with
  | zero => intro c; exact Or.inl rfl
  | succ m ih =>
    intro c
    unfold slc
    by_cases q : nx c w < 36 ∧ fr (nx c w) = true
    · rw [if_pos q]
      rcases ih (nx c w) with h | h
      · right; rw [h]; exact q.2
      · right; exact h
    · rw [if_neg q]; exact Or.inl rfl
theorem slk_le {fr : Nat → Bool} {w : Nat} : ∀ m c, slk fr w m c ≤ m := by
  intro m
  induction m with
  | zero => intro c; exact Nat.le_refl _
  | succ m ih =>
    intro c
    unfold slk
    by_cases q : nx c w < 36 ∧ fr (nx c w) = true
    · rw [if_pos q]; exact Nat.succ_le_succ (ih _)
    · rw [if_neg q]; omega
/-- as far as can be: beyond six steps there are no more -/
def dst (w c : Nat) : Nat := if w = 0 then 5 - c / 6 else if w = 1 then c % 6 else if w = 2 then c / 6 else 5 - c % 6
theorem nx_dst : ∀ c, c < 36 → ∀ w, w < 4 → nx c w < 36 → dst w (nx c w) + 1 = dst w c := by decide +kernel
theorem nx_dst0 : ∀ c, c < 36 → ∀ w, w < 4 → dst w c = 0 → ¬ nx c w < 36 := by decide +kernel
theorem dst_le : ∀ c, c < 36 → ∀ w, w < 4 → dst w c ≤ 5 := by decide +kernel
theorem sl_far {fr : Nat → Bool} {w : Nat} (hw : w < 4) : ∀ m c, c < 36 → dst w c ≤ m → slk fr w m c = slk fr w (dst w c) c ∧ slc fr w m c = slc fr w (dst w c) c := by
  intro m
  induction m with
  | zero => intro c _ h; rw [Nat.le_zero.mp h]; exact ⟨rfl, rfl⟩
  | succ m ih =>
    intro c hc h
    by_cases q : nx c w < 36 ∧ fr (nx c w) = true
    · have e := nx_dst c hc w hw q.1
      have i := ih (nx c w) q.1 (by omega)
      rw [← e]
      unfold slk slc
      rw [if_pos q, if_pos q, if_pos q, if_pos q, i.1, i.2]
      exact ⟨rfl, rfl⟩
    · cases hd : dst w c with
      | zero =>
        unfold slk slc
        rw [if_neg q, if_neg q]
        exact ⟨rfl, rfl⟩
      | succ d =>
        unfold slk slc
        rw [if_neg q, if_neg q, if_neg q, if_neg q]
        exact ⟨rfl, rfl⟩
theorem sl_6 {fr : Nat → Bool} {w c : Nat} (hw : w < 4) (hc : c < 36) : slk fr w 36 c = slk fr w 6 c ∧ slc fr w 36 c = slc fr w 6 c := by
  have h1 := sl_far (fr := fr) hw 36 c hc (by have := dst_le c hc w hw; omega)
  have h2 := sl_far (fr := fr) hw 6 c hc (by have := dst_le c hc w hw; omega)
  exact ⟨h1.1.trans h2.1.symm, h1.2.trans h2.2.symm⟩
/-- on the way from a cell one never comes back to it -/
def onw (w a c i : Nat) : Prop := (w = 0 → c = a + 6 * i) ∧ (w = 1 → c + i = a) ∧ (w = 2 → c + 6 * i = a) ∧ (w = 3 → c = a + i)
theorem onw_nx {w a c i : Nat} (hw : w < 4) (h : onw w a c i) (hc : nx c w < 36) : onw w a (nx c w) (i + 1) ∧ nx c w ≠ a := by
  obtain ⟨h0, h1, h2, h3⟩ := h
  unfold nx at hc ⊢
  unfold onw
  rcases (show w = 0 ∨ w = 1 ∨ w = 2 ∨ w = 3 by omega) with e | e | e | e
  · subst e
    have := h0 rfl
    simp only [if_true, Nat.reduceEqDiff, if_false, false_implies, true_implies, and_true, true_and] at hc ⊢
    split at hc
    · rename_i q; rw [if_pos q]; omega
    · omega
  · subst e
    have := h1 rfl
    simp only [if_true, Nat.reduceEqDiff, if_false, false_implies, true_implies, and_true, true_and] at hc ⊢
    split at hc
    · rename_i q; rw [if_pos q]; omega
    · omega
  · subst e
    have := h2 rfl
    simp only [if_true, Nat.reduceEqDiff, if_false, false_implies, true_implies, and_true, true_and] at hc ⊢
    split at hc
    · rename_i q; rw [if_pos q]; omega
    · omega
  · subst e
    have := h3 rfl
    simp only [if_true, Nat.reduceEqDiff, if_false, false_implies, true_implies, and_true, true_and] at hc ⊢
    split at hc
    · rename_i q; rw [if_pos q]; omega
    · omega
theorem p_slideC {t w mo a : Nat} {bl : Int64} {fr : Nat → Bool} {cell : Nat → Int32} {taken : Int64} (ht : t < 6) (hw : w < 4) (hmo : mo ≤ 36) (hfr : ∀ d, d < 36 → d ≠ a → bL bl d = !fr d) :
    ∀ (k m c i : Nat), i + m = mo → m < k → c < 36 → onw w a c i → s_Things_slide_c37 (nI t) (nI w) (nI mo) bl (nI a) cell taken k (nI c) (nI i) (nI i) = s_Things_slide_c82 (nI t) (nI a) (nI (slc fr w m c)) (nI (i + slk fr w m c)) cell taken := by
  intro k
  induction k with
  | zero => intro m c i _ h; exact absurd h (Nat.not_lt_zero _)
  | succ k ih =>
    intro m c i h1 h2 hc ho
    rw [s_Things_slide_c37]
    cases m with
    | zero => rw [if_pos (nI_le (by omega) (by omega))]; rfl
    | succ m =>
      rw [if_neg (nI_ge (by omega) (by omega)), p_next c hc w hw, p_b1]
      by_cases q : nx c w < 36
      · obtain ⟨o1, o2⟩ := onw_nx hw ho q
        rw [if_pos q, if_neg (p_nlt0 (by omega)), p_isIn bl (by omega), p_b1, hfr _ q o2]
        unfold slc slk
        cases hf : fr (nx c w) with
        | true =>
          rw [if_pos (show (if (!true) = true then (1 : Int32) else 0) = 0 from rfl), if_pos (show nx c w < 36 ∧ true = true from ⟨q, rfl⟩), if_pos (show nx c w < 36 ∧ true = true from ⟨q, rfl⟩), nI_1]
          rw [ih m (nx c w) (i + 1) (by omega) (by omega) q o1, show i + 1 + slk fr w m (nx c w) = i + (slk fr w m (nx c w) + 1) by omega]
        | false =>
          rw [if_neg (show ¬ (if (!false) = true then (1 : Int32) else 0) = 0 from by decide), if_neg (show ¬ (nx c w < 36 ∧ false = true) from fun z => nomatch z.2), if_neg (show ¬ (nx c w < 36 ∧ false = true) from fun z => nomatch z.2), Nat.add_zero]
      · rw [if_neg q, if_pos (by decide)]
        unfold slc slk
        rw [if_neg (fun z => q z.1), if_neg (fun z => q z.1), Nat.add_zero]
/-! pure 3: the things of both programs -/
def ThR (n : Nat) (K M C : Nat → Nat) (kind m cell : Nat → Int32) (count : Int32) (taken walls : Int64) (R : Nat → Int32) : Prop :=
  n ≤ 6 ∧ count = nI n ∧ R 2 = nI n ∧ (∀ t, t < n → kind t = nI (K t) ∧ K t < 7 ∧ R (41 + 5 * t) = nI (K t)) ∧ (∀ t, t < n → m t = nI (M t) ∧ M t < 10 ∧ R (42 + 5 * t) = nI (M t)) ∧ (∀ t, t < n → cell t = nI (C t) ∧ C t < 36 ∧ R (43 + 5 * t) = nI (C t)) ∧ (∀ t u, t < n → u < n → C t = C u → t = u) ∧ (∀ t, t < n → bL walls (C t) = false) ∧ (∀ d, d < 36 → (bL taken d = true ↔ ∃ t, t < n ∧ C t = d)) ∧ (∀ c, c < 36 → R (5 + c) = if bL walls c = true then 1 else 0)
/-- free for thing t: no wall, none of the others there -/
def frb (walls : Int64) (C : Nat → Nat) (n t d : Nat) : Bool := !bL walls d && decide (fd (fun u => decide (u ≠ t ∧ C u = d)) n 0 = -1)
theorem frb_iff {walls : Int64} {C : Nat → Nat} {n t d : Nat} (hn : n ≤ 6) : frb walls C n t d = true ↔ bL walls d = false ∧ ∀ u, u < n → u ≠ t → C u ≠ d := by
  unfold frb
  rw [Bool.and_eq_true, Bool.not_eq_true', decide_eq_true_eq]
  constructor
  · intro ⟨h1, h2⟩
    refine ⟨h1, fun u hu hut e => ?_⟩
    rcases fd_some (p := fun u => decide (u ≠ t ∧ C u = d)) n 0 with ⟨-, h4⟩ | ⟨j, h3, h4, h5, h6⟩
    · have := h4 u (Nat.zero_le _) (by omega)
      simp only [decide_eq_false_iff_not] at this
      exact this ⟨hut, e⟩
    · rw [h6] at h2
      have : ¬ nI j < 0 := nI_pos (by omega)
      rw [h2] at this
      exact this (by decide)
  · intro ⟨h1, h2⟩
    refine ⟨h1, ?_⟩
    rcases fd_some (p := fun u => decide (u ≠ t ∧ C u = d)) n 0 with ⟨h3, -⟩ | ⟨j, h3, h4, h5, h6⟩
    · exact h3
    · simp only [decide_eq_true_eq] at h5
      exact absurd h5.2 (h2 j (by omega) h5.1)
theorem p_freeM {n t c d : Nat} {C : Nat → Nat} {walls : Int64} {R : Nat → Int32} (hn : n ≤ 6) (hR2 : R 2 = nI n) (hC : ∀ u, u < n → C u < 36 ∧ R (43 + 5 * u) = nI (C u)) (hW : ∀ c, c < 36 → R (5 + c) = if bL walls c = true then 1 else 0) (hd : d < 36) (hc : c < 36) (hcd : d ≠ c) : s_M_isFree (nI d) (upd R (43 + 5 * t) (nI c)) = some (if frb walls C n t d = true then 1 else 0) := by
  unfold s_M_isFree
  rw [p_isWall hd, pk_un (by omega), hW d hd, p_b1]
  cases b : bL walls d with
  | true =>
    rw [if_pos rfl, if_pos rfl, if_neg (by decide)]
    have : frb walls C n t d = false := by unfold frb; rw [b]; rfl
    rw [this]
    rfl
  | false =>
    rw [if_pos (show (if (if false = true then (1 : Int32) else 0) = 1 then (1 : Int32) else 0) = 0 from rfl), p_min (nI d) _ hn (by rw [pk_un (by omega)]; exact hR2), p_b1]
    have e : fd (fun u => decide (upd R (43 + 5 * t) (nI c) (43 + 5 * u) = nI d)) n 0 = fd (fun u => decide (u ≠ t ∧ C u = d)) n 0 := by
      apply fd_congr
      intro u _ hu
      by_cases q : u = t
      · subst q
        rw [pk_us, decide_eq_decide, nI_eq (by omega) (by omega)]
        constructor
        · intro z; exact absurd z.symm hcd
        · intro z; exact absurd rfl z.1
      · rw [pk_un (by omega), (hC u (by omega)).2, decide_eq_decide, nI_eq (by have := (hC u (by omega)).1; omega) (by omega)]
        exact ⟨fun z => ⟨q, z⟩, fun z => z.2⟩
    rw [e]
    unfold frb
    rw [b]
    rcases fd_some (p := fun u => decide (u ≠ t ∧ C u = d)) n 0 with ⟨h3, -⟩ | ⟨j, h3, h4, h5, h6⟩
    · rw [h3]; rfl
    · rw [h6, if_pos (nI_pos' (by omega))]
      have : ¬ nI j = -1 := by
        intro z
        have h := nI_pos (n := j) (by omega)
        rw [z] at h
        exact h (by decide)
      rw [decide_eq_false this]
      rfl
theorem p_slideM {n t w mo : Nat} {C : Nat → Nat} {walls : Int64} {R : Nat → Int32} (hn : n ≤ 6) (ht : t < n) (hw : w < 4) (hmo : mo ≤ 36) (hR2 : R 2 = nI n) (hC : ∀ u, u < n → C u < 36 ∧ R (43 + 5 * u) = nI (C u)) (hW : ∀ c, c < 36 → R (5 + c) = if bL walls c = true then 1 else 0) :
    ∀ (k m c i : Nat), i + m = mo → m < k → c < 36 → s_M_slides_c3 (nI t) (nI w) (nI mo) k (nI i) (upd R (43 + 5 * t) (nI c)) = some (nI (i + slk (frb walls C n t) w m c), upd R (43 + 5 * t) (nI (slc (frb walls C n t) w m c))) := by
  intro k
  induction k with
  | zero => intro m c i _ h; exact absurd h (Nat.not_lt_zero _)
  | succ k ih =>
    intro m c i h1 h2 hc
    rw [s_M_slides_c3]
    cases m with
    | zero => rw [if_pos (nI_le (by omega) (by omega))]; rfl
    | succ m =>
      rw [if_neg (nI_ge (by omega) (by omega)), p_lit 2, p_of (by omega) (by omega), p_b1, show 41 + 5 * t + 2 = 43 + 5 * t by omega, pk_us, p_nextTo c hc w hw, p_b1]
      by_cases q : nx c w < 36
      · rw [if_pos q, if_neg (p_nlt0 (by omega)), p_freeM hn hR2 hC hW q hc (nx_ne c hc w hw), p_b1]
        unfold slc slk
        cases hf : frb walls C n t (nx c w) with
        | true =>
          rw [if_neg (show ¬ (if true = true then (1 : Int32) else 0) = 0 from by decide), if_pos (show nx c w < 36 ∧ true = true from ⟨q, rfl⟩), if_pos (show nx c w < 36 ∧ true = true from ⟨q, rfl⟩), p_lay (nI (nx c w)) (by omega) (by omega), p_b1, nI_1, show 41 + 5 * t + 2 = 43 + 5 * t by omega]
          have e : upd (upd R (43 + 5 * t) (nI c)) (43 + 5 * t) (nI (nx c w)) = upd R (43 + 5 * t) (nI (nx c w)) := by
            funext j
            by_cases z : j = 43 + 5 * t
            · rw [z, pk_us, pk_us]
            · rw [pk_un z, pk_un z, pk_un z]
          rw [e, ih m (nx c w) (i + 1) (by omega) (by omega) q, show i + 1 + slk (frb walls C n t) w m (nx c w) = i + (slk (frb walls C n t) w m (nx c w) + 1) by omega]
        | false =>
          rw [if_pos (show (if false = true then (1 : Int32) else 0) = 0 from rfl), if_neg (show ¬ (nx c w < 36 ∧ false = true) from fun z => nomatch z.2), if_neg (show ¬ (nx c w < 36 ∧ false = true) from fun z => nomatch z.2), Nat.add_zero]
      · rw [if_neg q, if_pos (by decide)]
        unfold slc slk
        rw [if_neg (fun z => q z.1), if_neg (fun z => q z.1), Nat.add_zero]
theorem p_updself {R : Nat → Int32} {k : Nat} {x : Int32} (h : R k = x) : upd R k x = R := by
  funext j
  by_cases z : j = k
  · rw [z, pk_us, h]
  · rw [pk_un z]
theorem p_has {t n : Nat} (ht : t < n) (hn : n ≤ 6) : s_Things_has (nI t) (nI n) = some 1 := by
  unfold s_Things_has
  rw [if_neg (p_nlt0 (by omega)), if_neg (nI_ge ht (by omega)), if_neg (show ¬ (6 : Int32) ≤ nI t from nI_ge (b := 6) (by omega) (by omega))]
theorem ThR_move {n : Nat} {K M C : Nat → Nat} {kind m cell : Nat → Int32} {count : Int32} {taken walls : Int64} {R : Nat → Int32} (h : ThR n K M C kind m cell count taken walls R) {t c : Nat} {tk : Int64} (ht : t < n) (hc : c < 36) (hf : c = C t ∨ (bL walls c = false ∧ ∀ u, u < n → u ≠ t → C u ≠ c)) (hb : ∀ d, d < 36 → bL tk d = ((bL taken d && decide (d ≠ C t)) || decide (d = c))) : ThR n K M (fun u => if u = t then c else C u) kind m (upd cell t (nI c)) count tk walls (upd R (43 + 5 * t) (nI c)) := by
  obtain ⟨hn, h1, h2, h3, h4, h5, h6, h7, h8, h9⟩ := h
  refine ⟨hn, h1, by rw [pk_un (by omega)]; exact h2, fun u hu => ?_, fun u hu => ?_, fun u hu => ?_, fun u v hu hv e => ?_, fun u hu => ?_, fun d hd => ?_, fun d hd => ?_⟩
  · rw [pk_un (by omega)]; exact h3 u hu
  · rw [pk_un (by omega)]; exact h4 u hu
  · by_cases q : u = t
    · subst q
      simp only [if_true]
      rw [pk_us, pk_us]
      exact ⟨rfl, hc, rfl⟩
    · simp only [if_neg q]
      rw [pk_un q, pk_un (by omega)]
      exact h5 u hu
  · have hne : ∀ u, u < n → u ≠ t → C u ≠ c := by
      intro u hu hut
      rcases hf with e1 | ⟨-, e1⟩
      · rw [e1]; exact fun z => hut (h6 u t hu ht z)
      · exact e1 u hu hut
    by_cases q1 : u = t
    · by_cases q2 : v = t
      · rw [q1, q2]
      · simp only [if_pos q1, if_neg q2] at e
        exact absurd e.symm (hne v hv q2)
    · by_cases q2 : v = t
      · simp only [if_neg q1, if_pos q2] at e
        exact absurd e (hne u hu q1)
      · simp only [if_neg q1, if_neg q2] at e
        exact h6 u v hu hv e
  · by_cases q : u = t
    · simp only [if_pos q]
      rcases hf with e1 | ⟨e1, -⟩
      · rw [e1]; exact h7 t ht
      · exact e1
    · simp only [if_neg q]
      exact h7 u hu
  · rw [hb d hd, Bool.or_eq_true, Bool.and_eq_true, decide_eq_true_eq, decide_eq_true_eq, h8 d hd]
    constructor
    · rintro (⟨⟨u, hu, e⟩, hne⟩ | e)
      · refine ⟨u, hu, ?_⟩
        have : u ≠ t := fun z => hne (by rw [← z, e])
        show (if u = t then c else C u) = d; rw [if_neg this]; exact e
      · exact ⟨t, ht, by show (if t = t then c else C t) = d; rw [if_pos rfl, e]⟩
    · rintro ⟨u, hu, e⟩
      have e : (if u = t then c else C u) = d := e
      by_cases q : u = t
      · rw [if_pos q] at e; exact Or.inr e.symm
      · rw [if_neg q] at e
        left
        refine ⟨⟨u, hu, e⟩, fun z => q (h6 u t hu ht (by rw [e, z]))⟩
  · rw [pk_un (by omega)]; exact h9 d hd
theorem r_slide {n : Nat} {K M C : Nat → Nat} {kind m cell : Nat → Int32} {count : Int32} {taken walls : Int64} {R : Nat → Int32} (h : ThR n K M C kind m cell count taken walls R) {t w mo mo' : Nat} (ht : t < n) (hw : w < 4) (hmo : mo ≤ 36) (hmo' : mo' ≤ 36) (he : mo = mo' ∨ (mo = 6 ∧ mo' = 36)) :
    ∃ (k c : Nat) (tk : Int64), k ≤ 36 ∧ k ≤ mo ∧ s_Things_slide (nI t) (nI w) (nI mo) walls cell count taken = some (nI k, upd cell t (nI c), tk) ∧ s_M_slides (nI t) (nI w) (nI mo') R = some (nI k, upd R (43 + 5 * t) (nI c)) ∧ ThR n K M (fun u => if u = t then c else C u) kind m (upd cell t (nI c)) count tk walls (upd R (43 + 5 * t) (nI c)) := by
  obtain ⟨hn, h1, h2, h3, h4, h5, h6, h7, h8, h9⟩ := id h
  have hCt := h5 t ht
  have hsl : slk (frb walls C n t) w mo' (C t) = slk (frb walls C n t) w mo (C t) ∧ slc (frb walls C n t) w mo' (C t) = slc (frb walls C n t) w mo (C t) := by
    rcases he with e | ⟨e1, e2⟩
    · subst e; exact ⟨rfl, rfl⟩
    · subst e1; subst e2; exact sl_6 hw hCt.2.1
  refine ⟨slk (frb walls C n t) w mo (C t), slc (frb walls C n t) w mo (C t), (taken &&& ((j_lshl (1 : Int64) (nI (C t))) ^^^ (-1 : Int64))) ||| (j_lshl (1 : Int64) (nI (slc (frb walls C n t) w mo (C t)))), ?_, slk_le _ _, ?_, ?_, ?_⟩
  · exact Nat.le_trans (slk_le _ _) hmo
  · unfold s_Things_slide
    rw [h1, p_has ht hn, p_b1, if_neg (by decide), p_chk (by omega) (by omega), nI_clamp (by omega), hCt.1]
    have hfr : ∀ d, d < 36 → d ≠ C t → bL (walls ||| taken) d = !frb walls C n t d := by
      intro d hd hne
      rw [bL_or]
      have e1 : (bL taken d = true) ↔ ¬ ∀ u, u < n → u ≠ t → C u ≠ d := by
        rw [h8 d hd]
        constructor
        · rintro ⟨u, hu, e⟩ z
          exact z u hu (fun q => hne (by rw [← e, q])) e
        · intro z
          rcases fd_some (p := fun u => decide (u ≠ t ∧ C u = d)) n 0 with ⟨h3, h4⟩ | ⟨j, q3, q4, q5, q6⟩
          · exact absurd (fun u hu hut e => by have := h4 u (Nat.zero_le _) (by omega); simp only [decide_eq_false_iff_not] at this; exact this ⟨hut, e⟩) z
          · simp only [decide_eq_true_eq] at q5
            exact ⟨j, by omega, q5.2⟩
      cases hb : frb walls C n t d with
      | true =>
        obtain ⟨z1, z2⟩ := (frb_iff hn).mp hb
        have : bL taken d = false := by
          cases hq : bL taken d with
          | false => rfl
          | true => exact absurd z2 (e1.mp hq)
        rw [z1, this]; rfl
      | false =>
        cases hq : bL walls d with
        | true => rfl
        | false =>
          have : bL taken d = true := e1.mpr (fun z => by
            have := (frb_iff (walls := walls) (C := C) (t := t) (d := d) hn).mpr ⟨hq, z⟩
            rw [hb] at this; cases this)
          rw [this]; rfl
    have key := p_slideC (t := t) (w := w) (mo := mo) (a := C t) (bl := walls ||| taken) (fr := frb walls C n t) (cell := cell) (taken := taken) (by omega) hw hmo hfr 400 mo (C t) 0 (by omega) (by omega) hCt.2.1 ⟨fun _ => by omega, fun _ => by omega, fun _ => by omega, fun _ => by omega⟩
    rw [Nat.zero_add] at key
    refine Eq.trans key ?_
    unfold s_Things_slide_c82
    rw [p_chk (by omega) (by omega), nI_clamp (by omega)]
  · unfold s_M_slides
    have key := p_slideM (t := t) (w := w) (mo := mo') (C := C) (walls := walls) (R := R) hn ht hw hmo' h2 (fun u hu => (h5 u hu).2) h9 400 mo' (C t) 0 (by omega) (by omega) hCt.2.1
    rw [p_updself hCt.2.2, Nat.zero_add, hsl.1, hsl.2] at key
    exact key
  · refine ThR_move h ht (slc_lt _ _ hCt.2.1) ?_ ?_
    · rcases slc_or (fr := frb walls C n t) (w := w) mo (C t) with e | e
      · exact Or.inl e
      · exact Or.inr ((frb_iff hn).mp e)
    · intro d hd
      rw [bL_or, bL_and, bL_not _ (by omega), bL_one _ (by have := hCt.2.1; omega) _ (by omega), bL_one _ (by have := slc_lt (fr := frb walls C n t) (w := w) mo _ hCt.2.1; omega) _ (by omega)]
      congr 2
      by_cases q : d = C t
      · simp [q]
      · simp [q]
