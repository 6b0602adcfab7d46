/-! pure 18: calm under screws -/
def bcn : Nat → Nat → Nat
  | 0, _ => 0
  | m + 1, k => k % 2 + bcn m (k / 2)
theorem p_bc : ∀ k, k < 64 → s_Int_bitCount (nI k) = some (nI (bcn 6 k)) ∧ s_M_bits (nI k) = some (nI (bcn 6 k)) ∧ bcn 6 k ≤ 6 := by decide +kernel
theorem p_calm35 {n mo : Nat} {x5 : Int32} {R F f : Nat → Int32} {Fl : Nat → Nat} (hn : n ≤ 6) (hmo : mo ≤ 36) (h2 : R 2 = nI n) (hf : ∀ u, u < n → R (45 + 5 * u) = nI (Fl u) ∧ Fl u ≤ 36) (K : Int32 → Int32 → (Nat → Int32) → (Nat → Int32) → (Nat → Int32) → Option (Int32 × (Nat → Int32) × (Nat → Int32) × (Nat → Int32))) : ∀ (fuel q t : Nat) (fl : Bool), t + q = n → q < fuel → ∃ fl' : Bool, (fl' = true ↔ fl = true ∧ ∀ u, t ≤ u → u < n → Fl u ≤ mo) ∧ s_M_isCalm_c35 K (nI mo) x5 R F f fuel (if fl = true then 1 else 0) (nI t) = K (if fl' = true then 1 else 0) (x5 + (1 : Int32)) R F f := by
  intro fuel
  induction fuel with
  | zero => intro q t fl _ h; exact absurd h (Nat.not_lt_zero _)
  | succ fuel ih =>
    intro q t fl hq hf1
    rw [s_M_isCalm_c35, show (2 : Int32).toNatClampNeg = 2 from rfl, h2]
    cases q with
    | zero =>
      rw [if_pos (nI_le (by omega) (by omega))]
      exact ⟨fl, ⟨fun z => ⟨z, fun u u1 u2 => absurd u2 (by omega)⟩, fun z => z.1⟩, rfl⟩
    | succ q =>
      rw [if_neg (nI_ge (by omega) (by omega))]
      unfold s_M_isCalm_c66 s_M_isCalm_c67
      rw [show nI t + (1 : Int32) = nI (t + 1) from nI_add t 1]
      cases fl with
      | false =>
        obtain ⟨fl', e1, e2⟩ := ih q (t + 1) false (by omega) (by omega)
        refine ⟨fl', ⟨fun z => absurd (e1.mp z).1 (by decide), fun z => absurd z.1 (by decide)⟩, ?_⟩
        rw [if_neg (show ¬ false = true by decide), if_pos rfl]
        rw [if_neg (show ¬ false = true by decide)] at e2
        exact e2
      | true =>
        rw [if_pos (show true = true from rfl), if_neg (show ¬ (1 : Int32) = 0 by decide), show s_M_of (nI t) (4 : Int32) R = some (nI (Fl t)) from by rw [show (4 : Int32) = nI 4 from rfl, p_of (by omega) (by omega), show 41 + 5 * t + 4 = 45 + 5 * t by omega, (hf t (by omega)).1], p_b1]
        have hft := (hf t (by omega)).2
        by_cases z : Fl t ≤ mo
        · obtain ⟨fl', e1, e2⟩ := ih q (t + 1) true (by omega) (by omega)
          refine ⟨fl', ⟨fun y => ⟨rfl, fun u u1 u2 => ?_⟩, fun y => e1.mpr ⟨rfl, fun u u1 u2 => y.2 u (by omega) u2⟩⟩, ?_⟩
          · by_cases w : u = t
            · rw [w]; exact z
            · exact (e1.mp y).2 u (by omega) u2
          · rw [if_neg (nI_nlt z (by omega))]
            rw [if_pos (show true = true from rfl)] at e2
            exact e2
        · obtain ⟨fl', e1, e2⟩ := ih q (t + 1) false (by omega) (by omega)
          refine ⟨fl', ⟨fun y => absurd (e1.mp y).1 (by decide), fun y => absurd (y.2 t (by omega) (by omega)) z⟩, ?_⟩
          rw [if_pos (nI_lt (by omega) (by omega))]
          rw [if_neg (show ¬ false = true by decide)] at e2
          exact e2
theorem p_c81 {R B F f : Nat → Int32} (b : Bool) : ∃ R', s_M_isCalm_c81 (if b = true then 1 else 0) R B F f = some (if b = true then 1 else 0, R', F, f) ∧ ∀ j, j < 397 → R' j = B j := by
  obtain ⟨Z, z1, z2⟩ := p_putsBack R B
  refine ⟨Z, ?_, z2⟩
  unfold s_M_isCalm_c81
  rw [z1, p_b1, p_bz (by cases b <;> decide)]
theorem p_calm {n m mo h : Nat} {held : Int32} {K M : Nat → Nat} {kind mm broken pulls : Nat → Int32} {walls : Int64} {len len2 : Nat} {o v d o2 v2 d2 : Nat → Nat} {psteps bsteps : Nat → Int32} {pcnt bcnt : Int32} {B : Nat → Int32} (hm : m ≤ 100) (hmo : mo ≤ 36) (hp : ∀ j, j < m → pulls j = nI (plv len o v d (nI (h + j)) (nI (h + j) / 12) (nI n))) :
    ∀ (fuel fuel' q i : Nat) (C : Nat → Nat) (cell fell : Nat → Int32) (taken : Int64) (R F f : Nat → Int32), i + q = m → q < fuel → q < fuel' → R 0 = nI (h + i) → ThR n K M C kind mm cell (nI n) taken walls R → CdR len o v d psteps pcnt 155 R → CdR len2 o2 v2 d2 bsteps bcnt 276 R →
    ∃ (b : Bool) (cell' fell' : Nat → Int32) (tk' : Int64) (R' F' f' : Nat → Int32), s_Thought_staysWithin_c14 (nI m) (nI mo) held kind mm broken (nI n) pulls walls fuel (nI i) cell fell taken = some (if b = true then 1 else 0, kind, mm, cell', broken, fell', nI n, tk') ∧ s_M_isCalm_c6 held (nI m) (nI mo) B fuel' 1 (nI i) R F f = some (if b = true then 1 else 0, R', F', f') ∧ (∀ j, j < 397 → R' j = B j) := by
  intro fuel
  induction fuel with
  | zero => intro fuel' q i C cell fell taken R F f _ h; exact absurd h (Nat.not_lt_zero _)
  | succ fuel ih =>
    intro fuel' q i C cell fell taken R F f hq hf hf' h0 hT hc1 hc2
    cases fuel' with
    | zero => exact absurd hf' (Nat.not_lt_zero _)
    | succ fuel' =>
    rw [s_Thought_staysWithin_c14, s_M_isCalm_c6]
    have hn : n ≤ 6 := hT.1
    cases q with
    | zero =>
      obtain ⟨Z, z1, z2⟩ := p_c81 (R := R) (B := B) (F := F) (f := f) true
      rw [if_pos (nI_le (by omega) (by omega)), if_pos (nI_le (by omega) (by omega))]
      exact ⟨true, cell, fell, taken, Z, F, f, rfl, z1, z2⟩
    | succ q =>
      obtain ⟨a0, C', Fl', cell', fell', tk', R', F1, f1, F', f', g1, g2, g3, g4, gF, ga, gm, g5, g6, g7⟩ := p_step (held := held) (fell := fell) (by omega) hT hc1 hc2 (hp i (by omega)) h0 F f
      obtain ⟨fl, e1, e2⟩ := p_calm35 (x5 := nI i) (F := F') (f := f') (Fl := Fl') hn hmo g4.2.2.1 (fun u hu => (gF u hu).2) (s_M_isCalm_c6 held (nI m) (nI mo) B fuel') 400 n 0 true (by omega) (by omega)
      rw [if_pos (show true = true from rfl)] at e2
      rw [if_neg (nI_ge (by omega) (by omega)), if_neg (nI_ge (by omega) (by omega)), if_neg (show ¬ (1 : Int32) = 0 by decide), g1, p_b4, show (0 : Int32).toNatClampNeg = 0 from rfl, h0, g2, p_b3, g3, p_b3, show s_M_isCalm_c35 (s_M_isCalm_c6 held (nI m) (nI mo) B fuel') (nI mo) (nI i) R' F' f' 400 (1 : Int32) (0 : Int32) = _ from e2, show nI i + (1 : Int32) = nI (i + 1) from nI_add i 1]
      have key : fl = true ↔ a0 ≤ mo := by
        rw [e1, gm mo]
        exact ⟨fun z u hu => z.2 u (by omega) hu, fun z => ⟨rfl, fun u _ hu => z u hu⟩⟩
      by_cases z : a0 ≤ mo
      · rw [if_pos (nI_le z (by omega)), if_pos (key.mpr z)]
        exact ih fuel' q (i + 1) C' cell' fell' tk' R' F' f' (by omega) (by omega) (by omega) g7 g4 g5 g6
      · rw [if_neg (nI_ge (by omega) (by omega)), if_neg (fun y => z (key.mp y))]
        cases fuel' with
        | zero => exact absurd hf' (by omega)
        | succ fuel' =>
        obtain ⟨Z, z1, z2⟩ := p_c81 (R := R') (B := B) (F := F') (f := f') false
        refine ⟨false, cell', fell', tk', Z, F', f', rfl, ?_, z2⟩
        rw [s_M_isCalm_c6]
        by_cases y : nI m ≤ nI (i + 1)
        · rw [if_pos y]; exact z1
        · rw [if_neg y, if_pos rfl]; exact z1
