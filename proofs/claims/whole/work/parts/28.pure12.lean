/-! pure 14: shakes -/
theorem p_and3 {k : Nat} (h : k < 2 ^ 31) : nI k &&& (3 : Int32) = nI (k % 4) := by
  rw [← Int32.toBitVec_inj, Int32.toBitVec_and]
  show BitVec.ofNat 32 k &&& 3#32 = BitVec.ofNat 32 (k % 4)
  apply BitVec.eq_of_toNat_eq
  rw [BitVec.toNat_and, BitVec.toNat_ofNat, BitVec.toNat_ofNat, BitVec.toNat_ofNat, Nat.mod_eq_of_lt (show k < 2 ^ 32 by omega), Nat.mod_eq_of_lt (show k % 4 < 2 ^ 32 by omega), Nat.mod_eq_of_lt (show 3 < 2 ^ 32 by omega)]
  exact Nat.and_two_pow_sub_one_eq_mod k 2
theorem p_iush8 (x : Int32) : ∃ k, k < 2 ^ 24 ∧ j_iushr x 8 = nI k := by
  refine ⟨x.toBitVec.toNat / 2 ^ 8, ?_, ?_⟩
  · have := x.toBitVec.isLt
    omega
  · unfold j_iushr
    rw [← Int32.toBitVec_inj]
    show (x.toUInt32 >>> ((8 : Int32).toUInt32 &&& Int32.toUInt32 31)).toBitVec = BitVec.ofNat 32 _
    rw [UInt32.toBitVec_shiftRight]
    apply BitVec.eq_of_toNat_eq
    rw [BitVec.ushiftRight_eq', BitVec.toNat_ushiftRight, show (((8 : Int32).toUInt32 &&& Int32.toUInt32 31).toBitVec % 32).toNat = 8 from by decide, Nat.shiftRight_eq_div_pow, BitVec.toNat_ofNat]
    show x.toBitVec.toNat / 2 ^ 8 = _
    rw [Nat.mod_eq_of_lt]
    have := x.toBitVec.isLt
    omega
theorem p_draw (x : Int32) : ∃ w, w < 4 ∧ j_iushr x (8 : Int32) &&& (3 : Int32) = nI w ∧ j_iushr x (8 : Int32) - j_iushr x (8 : Int32) / (4 : Int32) * (4 : Int32) = nI w := by
  obtain ⟨k, h, e⟩ := p_iush8 x
  exact ⟨k % 4, by omega, by rw [e, p_and3 (by omega)], by rw [e]; exact pk_rem (d := 4) (by omega) (by decide) (by decide)⟩
theorem p_draw2 (z : Int32) {R : Nat → Int32} (hz : z = R 1) : ∃ w z', w < 4 ∧ s_House_draw z = some (j_iushr z' (8 : Int32), z') ∧ s_M_draw R = some (j_iushr z' (8 : Int32), upd R 1 z') ∧ j_iushr z' (8 : Int32) &&& (3 : Int32) = nI w ∧ j_iushr z' (8 : Int32) - j_iushr z' (8 : Int32) / (4 : Int32) * (4 : Int32) = nI w := by
  obtain ⟨w, w1, w2, w3⟩ := p_draw (z * (1103515245 : Int32) + (12345 : Int32))
  refine ⟨w, z * (1103515245 : Int32) + (12345 : Int32), w1, rfl, ?_, w2, w3⟩
  unfold s_M_draw
  rw [show (1 : Int32).toNatClampNeg = 1 from rfl, pk_us, hz]
def frZ (R R' : Nat → Int32) : Prop := ∀ j, j ≠ 0 → j ≠ 1 → (j < 41 ∨ 70 < j) → R' j = R j
theorem ThR_on1 {n : Nat} {K M C : Nat → Nat} {kind m cell : Nat → Int32} {count : Int32} {taken walls : Int64} {R : Nat → Int32} {z : Int32} (h : ThR n K M C kind m cell count taken walls R) : ThR n K M C kind m cell count taken walls (upd R 1 z) := by
  obtain ⟨hn, h1, h2, h3, h4, h5, h6, h7, h8, h9⟩ := h
  refine ⟨hn, h1, by rw [pk_un (by omega)]; exact h2, fun t ht => ?_, fun t ht => ?_, fun t ht => ?_, h6, h7, h8, fun d hd => ?_⟩
  · rw [pk_un (by omega)]; exact h3 t ht
  · rw [pk_un (by omega)]; exact h4 t ht
  · rw [pk_un (by omega)]; exact h5 t ht
  · rw [pk_un (by omega)]; exact h9 d hd
theorem p_shakes {n m : Nat} {K M : Nat → Nat} {kind mm : Nat → Int32} {walls : Int64} {bsteps : Nat → Int32} {bcnt : Int32} {E E2 : Nat → Int32} {len2 : Nat} {o2 v2 d2 : Nat → Nat} (hm : m ≤ 40) :
    ∀ (fuel fuel' q i h : Nat) (z : Int32) (C : Nat → Nat) (cell broken fell : Nat → Int32) (taken : Int64) (bst R F f : Nat → Int32), i + q = m → q < fuel → q < fuel' → h + q ≤ 9999 → R 0 = nI h → z = R 1 → ThR n K M C kind mm cell (nI n) taken walls R → (∀ u, u < n → broken u = R (44 + 5 * u)) → (∀ u, u < n → fell u = R (45 + 5 * u)) → CdR len2 o2 v2 d2 bsteps bcnt 276 R →
    ∃ r C' cell' broken' fell' tk' z' bst' R' F' f', s_X_shakes_c40 (nI m) kind mm (nI n) walls bsteps bcnt E fuel (nI i) cell broken fell taken (nI h) z bst = some (r, cell', broken', fell', tk', nI (h + q), z', bst', E) ∧ s_M_shakes_c40 (nI m) E2 fuel' (nI i) R F f = some (r, R', E2, F', f') ∧ ThR n K M C' kind mm cell' (nI n) tk' walls R' ∧ (∀ u, u < n → broken' u = R' (44 + 5 * u)) ∧ (∀ u, u < n → fell' u = R' (45 + 5 * u)) ∧ R' 0 = nI (h + q) ∧ z' = R' 1 ∧ frZ R R' := by
  intro fuel
  induction fuel with
  | zero => intro fuel' q i h z C cell broken fell taken bst R F f _ h; exact absurd h (Nat.not_lt_zero _)
  | succ fuel ih =>
    intro fuel' q i h z C cell broken fell taken bst R F f hk hq hq' hh h0 hz hT hb hf hc2
    cases fuel' with
    | zero => exact absurd hq' (Nat.not_lt_zero _)
    | succ fuel' =>
    obtain ⟨hn, -, h2, -⟩ := id hT
    rw [s_X_shakes_c40, s_M_shakes_c40]
    cases q with
    | zero =>
      obtain ⟨s, s1, s2⟩ := p_brk hn h2 hb 400 400 n 0 0 (by omega) (by omega) (by omega)
      rw [if_pos (nI_le (by omega) (by omega)), if_pos (nI_le (by omega) (by omega))]
      unfold s_Things_brokenCount s_M_broken
      rw [show s_Things_brokenCount_c4 broken (nI n) 400 (0 : Int32) (0 : Int32) = some s from s1, p_b1, show s_M_broken_c4 R 400 (0 : Int32) (0 : Int32) = some s from s2, p_b1]
      exact ⟨s, C, cell, broken, fell, taken, z, bst, R, F, f, rfl, rfl, hT, hb, hf, h0, hz, fun _ _ _ _ => rfl⟩
    | succ q =>
      rw [if_neg (nI_ge (by omega) (by omega)), if_neg (nI_ge (by omega) (by omega))]
      obtain ⟨w, z1, w1, w2, w3, w4, w5⟩ := p_draw2 z hz
      rw [w2, p_b2, w3, p_b2, w4, w5]
      obtain ⟨C1, cell1, broken1, fell1, tk1, st1, R1, F2, f2, g1, g2, g3, g4, g5, g6⟩ := r_goes (hour := nI h) (w := w) w1 400 400 n 0 C cell broken fell taken bst (upd R 1 z1) F f (by omega) (by omega) (by omega) (ThR_on1 hT) (fun u hu => by rw [pk_un (by omega)]; exact hb u hu) (fun u hu => by rw [pk_un (by omega)]; exact hf u hu) (CdR_on hc2 (fun j j1 j2 => pk_un (by omega)))
      unfold s_House_passHour s_M_goes
      rw [show (0 : Int32) = nI 0 from rfl]
      rw [g1, p_b6, show s_M_goes_c2 (nI w) (nI 0) 400 (nI 0) (upd R 1 z1) F f = _ from g2, p_b3, show nI h + (1 : Int32) = nI (h + 1) from nI_add h 1, show nI i + (1 : Int32) = nI (i + 1) from nI_add i 1]
      have e0 : R1 0 = nI h := by rw [g6 0 (by omega), pk_un (by omega), h0]
      have e1 : R1 1 = z1 := by rw [g6 1 (by omega), pk_us]
      obtain ⟨r, C', cell', broken', fell', tk', z', bst', R', F', f', a1, a2, a4, a5, a6, a7, a9, a8⟩ := ih fuel' q (i + 1) (h + 1) z1 C1 cell1 broken1 fell1 tk1 st1 (upd R1 0 (R1 0 + 1)) F2 f2 (by omega) (by omega) (by omega) (by omega) (by rw [pk_us, e0]; exact nI_add h 1) (by rw [pk_un (by omega), e1]) (ThR_on g3 (fun j _ _ j0 => pk_un j0)) (fun u hu => by rw [pk_un (by omega)]; exact g4 u hu) (fun u hu => by rw [pk_un (by omega)]; exact g5 u hu) (CdR_on hc2 (fun j j1 j2 => by rw [pk_un (by omega), g6 j (by omega), pk_un (by omega)]))
      refine ⟨r, C', cell', broken', fell', tk', z', bst', R', F', f', ?_, a2, a4, a5, a6, ?_, a9, ?_⟩
      · rw [show h + (q + 1) = h + 1 + q by omega]; exact a1
      · rw [show h + (q + 1) = h + 1 + q by omega]; exact a7
      · intro j j1 j3 j2
        rw [a8 j j1 j3 j2, pk_un j1, g6 j j2, pk_un j3]
theorem q_shakes {kind m cell broken fell : Nat → Int32} {count hour z : Int32} {taken walls : Int64} {bsteps bstack : Nat → Int32} {bcnt : Int32} {R E E2 : Nat → Int32} (hT : RTh kind m cell broken fell count taken walls R) (hh : RHr hour R) (hz : z = R 1) (hb : RCd bsteps bcnt 276 R) (hE : ErR E E2) (a : Int32) (F f : Nat → Int32) :
    ∃ r cell' broken' fell' taken' hour' z' st2' E' R' E2' F' f', s_X_shakes a kind m cell broken fell count taken walls hour z bsteps bstack bcnt E = some (r, cell', broken', fell', taken', hour', z', st2', E') ∧ s_M_shakes a R E2 F f = some (r, R', E2', F', f') ∧ RTh kind m cell' broken' fell' count taken' walls R' ∧ RHr hour' R' ∧ z' = R' 1 ∧ ErR E' E2' ∧ frZ R R' := by
  obtain ⟨E1, F1, x1, x2, x3⟩ := p_err hE (k := 1) (by omega)
  obtain ⟨E3, F3, y1, y2, y3⟩ := p_err hE (k := 3) (by omega)
  obtain ⟨n, K, M, C, h, hbr, hf, hu⟩ := id hT
  obtain ⟨hn, h1, h2, -⟩ := id h
  obtain ⟨hr, hr1, rfl, hr2⟩ := id hh
  obtain ⟨len2, o2, v2, d2, hb⟩ := hb
  rcases p_rg a 1 40 (by omega) (by omega) with ⟨hM, hX⟩ | ⟨j, hj1, hj, rfl, hM, hX⟩
  · refine ⟨eL 1, cell, broken, fell, taken, nI hr, z, bstack, E1, R, F1, F, f, ?_, ?_, hT, hh, hz, x3, fun _ _ _ _ => rfl⟩
    · unfold s_X_shakes
      refine (hX _ _).trans ?_
      unfold s_X_shakes_c11
      rw [show (1 : Int32) = nI 1 from rfl, x1, p_b2]
    · unfold s_M_shakes
      rw [show s_M_in a (1 : Int32) (40 : Int32) = some 0 from hM, p_b1, if_pos rfl, show (-1000000001 : Int32) = eL 1 from by decide, x2, p_b2]
  · by_cases c : hr + j ≤ 9999
    · subst h1
      obtain ⟨r, C', cell', broken', fell', tk', z', bst', R', F', f', a1, a2, a4, a5, a6, a7, a9, a8⟩ := p_shakes (E := E) (E2 := E2) hj 400 400 j 0 hr z C cell broken fell taken bstack R F f (by omega) (by omega) (by omega) c hr2 hz h hbr hf hb
      refine ⟨r, cell', broken', fell', tk', nI (hr + j), z', bst', E, R', E2, F', f', ?_, ?_, ⟨n, K, M, C', a4, a5, a6, hu⟩, ⟨hr + j, c, rfl, a7⟩, a9, hE, a8⟩
      · unfold s_X_shakes
        refine (hX _ _).trans ?_
        rw [nI_add, if_pos (show nI (hr + j) ≤ (9999 : Int32) from nI_le (b := 9999) (by omega) (by omega))]
        exact a1
      · unfold s_M_shakes
        rw [show s_M_in (nI j) (1 : Int32) (40 : Int32) = some 1 from hM, p_b1, if_neg (show ¬ (1 : Int32) = 0 by decide), show (0 : Int32).toNatClampNeg = 0 from rfl, hr2, nI_add, if_pos (show nI (hr + j) ≤ (9999 : Int32) from nI_le (b := 9999) (by omega) (by omega))]
        exact a2
    · refine ⟨eL 3, cell, broken, fell, taken, nI hr, z, bstack, E3, R, F3, F, f, ?_, ?_, hT, hh, hz, y3, fun _ _ _ _ => rfl⟩
      · unfold s_X_shakes
        refine (hX _ _).trans ?_
        rw [nI_add, if_neg (show ¬ nI (hr + j) ≤ (9999 : Int32) from nI_ge (a := 9999) (by omega) (by omega)), show (3 : Int32) = nI 3 from rfl, y1, p_b2]
      · unfold s_M_shakes
        rw [show s_M_in (nI j) (1 : Int32) (40 : Int32) = some 1 from hM, p_b1, if_neg (show ¬ (1 : Int32) = 0 by decide), show (0 : Int32).toNatClampNeg = 0 from rfl, hr2, nI_add, if_neg (show ¬ nI (hr + j) ≤ (9999 : Int32) from nI_ge (a := 9999) (by omega) (by omega)), show (-1000000003 : Int32) = eL 3 from by decide, y2, p_b2]
