/-! pure 13: the tape is fed; hours pass -/
def byt (x : Int64) (k : Nat) : Nat := (x.toBitVec.toNat >>> (8 * k)) % 2 ^ 8
theorem p_shU : ∀ k, k < 8 → (((nI (8 * k)).toInt64.toUInt64 &&& Int64.toUInt64 63).toBitVec % 64).toNat = 8 * k := by decide +kernel
theorem p_shS : ∀ k, k < 8 → (((nI (8 * k)).toInt64 &&& (63 : Int64)).toBitVec.smod 64).toNat = 8 * k := by decide +kernel
theorem p_255 : ∀ i, i < 32 → (255 : Int32).toBitVec.getLsbD i = decide (i < 8) := by decide +kernel
theorem p_255L : ∀ i, i < 64 → (255 : Int64).toBitVec.getLsbD i = decide (i < 8) := by decide +kernel
theorem byt_bit (x : Int64) (k i : Nat) (hi : i < 32) : (nI (byt x k)).toBitVec.getLsbD i = (decide (i < 8) && x.toBitVec.getLsbD (8 * k + i)) := by
  show (BitVec.ofNat 32 (byt x k)).getLsbD i = _
  rw [BitVec.getLsbD_ofNat]
  unfold byt
  rw [Nat.testBit_mod_two_pow, Nat.testBit_shiftRight, decide_eq_true hi, Bool.true_and]
  rfl
theorem p_bytX (x : Int64) {k : Nat} (hk : k < 8) : ((((j_lushr x (nI (8 * k))).toInt32.toInt8.toInt32).toInt8.toInt32) &&& 255 : Int32) = nI (byt x k) := by
  rw [← Int32.toBitVec_inj]
  apply BitVec.eq_of_getLsbD_eq
  intro i hi
  rw [byt_bit x k i hi, Int32.toBitVec_and, BitVec.getLsbD_and, p_255 i hi]
  by_cases c : i < 8
  · rw [Int8.toBitVec_toInt32, Int32.toBitVec_toInt8, Int8.toBitVec_toInt32, Int32.toBitVec_toInt8, Int64.toBitVec_toInt32]
    have e : (j_lushr x (nI (8 * k))).toBitVec = x.toBitVec >>> (((nI (8 * k)).toInt64.toUInt64 &&& Int64.toUInt64 63).toBitVec % 64) := UInt64.toBitVec_shiftRight _ _
    rw [e]
    rw [BitVec.getLsbD_signExtend, if_pos c, BitVec.getLsbD_signExtend, if_pos (by omega), BitVec.getLsbD_signExtend, if_pos c, BitVec.getLsbD_signExtend, if_pos (by omega), BitVec.getLsbD_signExtend, if_pos (by omega), BitVec.ushiftRight_eq', BitVec.getLsbD_ushiftRight, p_shU k hk]
    simp [c, hi]
  · simp [c]
theorem p_bytM (x : Int64) {k : Nat} (hk : k < 8) : ((j_lshr x (nI (8 * k))) &&& 255).toInt32 = nI (byt x k) := by
  rw [← Int32.toBitVec_inj]
  apply BitVec.eq_of_getLsbD_eq
  intro i hi
  rw [byt_bit x k i hi, Int64.toBitVec_toInt32, BitVec.getLsbD_signExtend, if_pos (by omega), Int64.toBitVec_and, BitVec.getLsbD_and, p_255L i (by omega)]
  have e : (j_lshr x (nI (8 * k))).toBitVec = x.toBitVec.sshiftRight' (((nI (8 * k)).toInt64 &&& (63 : Int64)).toBitVec.smod 64) := Int64.toBitVec_shiftRight _ _
  by_cases c : i < 8
  · rw [e, BitVec.getLsbD_sshiftRight', p_shS k hk, if_pos (by omega)]
    simp [c, hi]
    omega
  · simp [c]
theorem p_feed {m : Nat} (x : Int64) (hm : m ≤ 8) {E2 : Nat → Int32} : ∀ (fuel fuel' q k l : Nat) (tape R : Nat → Int32), k + q = m → l + q ≤ 60 → q < fuel → q < fuel' → R 3 = nI l → (∀ i, i < l → ∃ b, b < 256 ∧ tape i &&& 255 = nI b ∧ R (71 + i) = nI b) →
    ∃ tape' R', s_House_addToTape_c3 x (nI m) fuel (nI k) tape (nI l) = some (tape', nI (l + q)) ∧ s_M_feed_c40 x (nI m) E2 fuel' (nI k) R = some (nI (l + q), R', E2) ∧ RTp tape' (nI (l + q)) R' ∧ (∀ j, j ≠ 3 → (j < 71 ∨ 131 ≤ j) → R' j = R j) := by
  intro fuel
  induction fuel with
  | zero => intro fuel' q k l tape R _ _ h; exact absurd h (Nat.not_lt_zero _)
  | succ fuel ih =>
    intro fuel' q k l tape R hk hl hq hq' h3 ht
    cases fuel' with
    | zero => exact absurd hq' (Nat.not_lt_zero _)
    | succ fuel' =>
    rw [s_House_addToTape_c3, s_M_feed_c40, show (3 : Int32).toNatClampNeg = 3 from rfl, h3]
    cases q with
    | zero =>
      rw [if_pos (nI_le (by omega) (by omega)), if_pos (nI_le (by omega) (by omega))]
      exact ⟨tape, R, rfl, rfl, ⟨l, by omega, rfl, h3, ht⟩, fun _ _ _ => rfl⟩
    | succ q =>
      rw [if_neg (nI_ge (by omega) (by omega)), if_neg (nI_ge (by omega) (by omega)), if_neg (show ¬ (60 : Int32) ≤ nI l from nI_ge (b := 60) (by omega) (by omega)), p_chk (by omega) (by omega), show (71 : Int32) + nI l = nI (71 + l) from nI_add 71 l, p_chk (by omega) (by omega), nI_clamp (by omega), nI_clamp (by omega), show (8 : Int32) * nI k = nI (8 * k) from by rw [p_lit 8, pk_mul], show nI k + (1 : Int32) = nI (k + 1) from nI_add k 1, show nI l + (1 : Int32) = nI (l + 1) from nI_add l 1, show j_l2i (j_lshr x (nI (8 * k)) &&& (255 : Int64)) = nI (byt x k) from p_bytM x (by omega)]
      rw [show upd R (71 + l) (nI (byt x k)) 3 = nI l from by rw [pk_un (by omega)]; exact h3, show nI l + (1 : Int32) = nI (l + 1) from nI_add l 1]
      obtain ⟨tape', R', a1, a2, a3, a4⟩ := ih fuel' q (k + 1) (l + 1) (upd tape l (vp_nar .byte (j_i2b (j_l2i (j_lushr x (nI (8 * k))))))) (upd (upd R (71 + l) (nI (byt x k))) 3 (nI (l + 1))) (by omega) (by omega) (by omega) (by omega) pk_us (fun i hi => by
        rw [show upd (upd R (71 + l) (nI (byt x k))) 3 (nI (l + 1)) (71 + i) = upd R (71 + l) (nI (byt x k)) (71 + i) from pk_un (by omega)]
        by_cases z : i = l
        · subst z
          refine ⟨byt x k, ?_, ?_, pk_us⟩
          · exact Nat.mod_lt _ (by decide)
          · rw [pk_us]
            exact p_bytX x (by omega)
        · rw [pk_un z, pk_un (by omega)]
          exact ht i (by omega))
      refine ⟨tape', R', ?_, ?_, ?_, ?_⟩
      · rw [show l + (q + 1) = l + 1 + q by omega]; exact a1
      · rw [show l + (q + 1) = l + 1 + q by omega]; exact a2
      · rw [show l + (q + 1) = l + 1 + q by omega]; exact a3
      · intro j j1 j2
        rw [a4 j j1 j2, pk_un j1, pk_un (by omega)]
theorem q_feed {tape : Nat → Int32} {len : Int32} {R E E2 : Nat → Int32} (ht : RTp tape len R) (hE : ErR E E2) (x : Int64) (a : Int32) :
    ∃ r tape' len' E' R' E2', s_X_feed x a tape len E = some (r, tape', len', E') ∧ s_M_feed x a R E2 = some (r, R', E2') ∧ RTp tape' len' R' ∧ ErR E' E2' ∧ (∀ j, j ≠ 3 → (j < 71 ∨ 131 ≤ j) → R' j = R j) := by
  obtain ⟨E1, F1, x1, x2, x3⟩ := p_err hE (k := 1) (by omega)
  obtain ⟨E4, F4, y1, y2, y3⟩ := p_err hE (k := 4) (by omega)
  obtain ⟨l, l1, rfl, l2, l3⟩ := id ht
  rcases p_rg a 1 8 (by omega) (by omega) with ⟨hM, hX⟩ | ⟨m, m1, hm, rfl, hM, hX⟩
  · refine ⟨eL 1, tape, nI l, E1, R, F1, ?_, ?_, ht, x3, fun _ _ _ => rfl⟩
    · unfold s_X_feed
      refine (hX _ _).trans ?_
      unfold s_X_feed_c11
      rw [show (1 : Int32) = nI 1 from rfl, x1, p_b2]
    · unfold s_M_feed
      rw [show s_M_in a (1 : Int32) (8 : Int32) = some 0 from hM, p_b1, if_pos rfl, show (-1000000001 : Int32) = eL 1 from by decide, x2, p_b2]
  · by_cases c : l + m ≤ 60
    · obtain ⟨tape', R', a1, a2, a3, a4⟩ := p_feed x hm (E2 := E2) 400 400 m 0 l tape R (by omega) c (by omega) (by omega) l2 l3
      refine ⟨nI (l + m), tape', nI (l + m), E, R', E2, ?_, ?_, a3, hE, a4⟩
      · unfold s_X_feed
        refine (hX _ _).trans ?_
        unfold s_House_tapeHasRoom s_House_addToTape
        rw [nI_add, if_neg (show ¬ (60 : Int32) < nI (l + m) from nI_nlt (a := 60) (by omega) (by omega)), p_b1, if_neg (show ¬ (1 : Int32) = 0 by decide), show (0 : Int32) = nI 0 from rfl, a1, p_b2]
      · unfold s_M_feed
        rw [show s_M_in (nI m) (1 : Int32) (8 : Int32) = some 1 from hM, p_b1, if_neg (show ¬ (1 : Int32) = 0 by decide), show (3 : Int32).toNatClampNeg = 3 from rfl, l2, nI_add, if_pos (show nI (l + m) ≤ (60 : Int32) from nI_le (b := 60) (by omega) (by omega))]
        exact a2
    · refine ⟨eL 4, tape, nI l, E4, R, F4, ?_, ?_, ht, y3, fun _ _ _ => rfl⟩
      · unfold s_X_feed
        refine (hX _ _).trans ?_
        unfold s_House_tapeHasRoom
        rw [nI_add, if_pos (show (60 : Int32) < nI (l + m) from nI_lt (a := 60) (by omega) (by omega)), p_b1, if_pos rfl, show (4 : Int32) = nI 4 from rfl, y1, p_b2]
      · unfold s_M_feed
        rw [show s_M_in (nI m) (1 : Int32) (8 : Int32) = some 1 from hM, p_b1, if_neg (show ¬ (1 : Int32) = 0 by decide), show (3 : Int32).toNatClampNeg = 3 from rfl, l2, nI_add, if_neg (show ¬ nI (l + m) ≤ (60 : Int32) from nI_ge (a := 60) (by omega) (by omega)), show (-1000000004 : Int32) = eL 4 from by decide, y2, p_b2]
theorem p_brk {n : Nat} {broken R : Nat → Int32} (hn : n ≤ 6) (h2 : R 2 = nI n) (hb : ∀ u, u < n → broken u = R (44 + 5 * u)) : ∀ (fuel fuel' q t : Nat) (x : Int32), t + q = n → q < fuel → q < fuel' → ∃ s, s_Things_brokenCount_c4 broken (nI n) fuel x (nI t) = some s ∧ s_M_broken_c4 R fuel' x (nI t) = some s := by
  intro fuel
  induction fuel with
  | zero => intro fuel' q t x _ h; exact absurd h (Nat.not_lt_zero _)
  | succ fuel ih =>
    intro fuel' q t x hk hq hq'
    cases fuel' with
    | zero => exact absurd hq' (Nat.not_lt_zero _)
    | succ fuel' =>
    rw [s_Things_brokenCount_c4, s_M_broken_c4, show (2 : Int32).toNatClampNeg = 2 from rfl, h2]
    cases q with
    | zero =>
      rw [if_pos (nI_le (by omega) (by omega)), if_pos (nI_le (by omega) (by omega))]
      exact ⟨x, rfl, rfl⟩
    | succ q =>
      rw [if_neg (nI_ge (by omega) (by omega)), if_neg (nI_ge (by omega) (by omega)), if_neg (show ¬ (6 : Int32) ≤ nI t from nI_ge (b := 6) (by omega) (by omega)), p_chk (by omega) (by omega), nI_clamp (by omega), show (3 : Int32) = nI 3 from rfl, p_of (by omega) (by omega), p_b1, show 41 + 5 * t + 3 = 44 + 5 * t by omega, hb t (by omega), show nI t + (1 : Int32) = nI (t + 1) from nI_add t 1]
      exact ih fuel' q (t + 1) _ (by omega) (by omega) (by omega)
def frH (R R' : Nat → Int32) : Prop := ∀ j, j ≠ 0 → (j < 41 ∨ 70 < j) → R' j = R j
theorem p_hours {n m : Nat} {K M : Nat → Nat} {kind mm : Nat → Int32} {walls : Int64} {psteps bsteps : Nat → Int32} {pcnt bcnt : Int32} {E : Nat → Int32} {len len2 : Nat} {o v d o2 v2 d2 : Nat → Nat} (hm : m ≤ 100) :
    ∀ (fuel fuel' q i h : Nat) (C : Nat → Nat) (cell broken fell : Nat → Int32) (taken : Int64) (pst bst R F f : Nat → Int32), i + q = m → q < fuel → q < fuel' → h + q ≤ 9999 → R 0 = nI h → ThR n K M C kind mm cell (nI n) taken walls R → (∀ u, u < n → broken u = R (44 + 5 * u)) → (∀ u, u < n → fell u = R (45 + 5 * u)) → CdR len o v d psteps pcnt 155 R → CdR len2 o2 v2 d2 bsteps bcnt 276 R →
    ∃ r C' cell' broken' fell' tk' pst' bst' R' F' f', s_X_hours_c40 (nI m) kind mm (nI n) walls psteps pcnt bsteps bcnt E fuel (nI i) cell broken fell taken (nI h) pst bst = some (r, cell', broken', fell', tk', nI (h + q), pst', bst', E) ∧ s_M_goesOn_c2 (nI m) fuel' (nI i) R F f = some (R', F', f') ∧ s_M_broken R' = some r ∧ ThR n K M C' kind mm cell' (nI n) tk' walls R' ∧ (∀ u, u < n → broken' u = R' (44 + 5 * u)) ∧ (∀ u, u < n → fell' u = R' (45 + 5 * u)) ∧ R' 0 = nI (h + q) ∧ frH R R' := by
  intro fuel
  induction fuel with
  | zero => intro fuel' q i h C cell broken fell taken pst bst R F f _ h; exact absurd h (Nat.not_lt_zero _)
  | succ fuel ih =>
    intro fuel' q i h C cell broken fell taken pst bst R F f hk hq hq' hh h0 hT hb hf hc1 hc2
    cases fuel' with
    | zero => exact absurd hq' (Nat.not_lt_zero _)
    | succ fuel' =>
    obtain ⟨hn, -, h2, -⟩ := id hT
    rw [s_X_hours_c40, s_M_goesOn_c2]
    cases q with
    | zero =>
      obtain ⟨s, s1, s2⟩ := p_brk hn h2 hb 400 400 n 0 0 (by omega) (by omega) (by omega)
      rw [if_pos (nI_le (by omega) (by omega)), if_pos (nI_le (by omega) (by omega))]
      unfold s_Things_brokenCount s_M_broken
      rw [show s_Things_brokenCount_c4 broken (nI n) 400 (0 : Int32) (0 : Int32) = some s from s1, p_b1]
      exact ⟨s, C, cell, broken, fell, taken, pst, bst, R, F, f, rfl, rfl, s2, hT, hb, hf, h0, fun _ _ _ => rfl⟩
    | succ q =>
      rw [if_neg (nI_ge (by omega) (by omega)), if_neg (nI_ge (by omega) (by omega)), show (0 : Int32).toNatClampNeg = 0 from rfl, h0]
      obtain ⟨pst1, y1⟩ := r_pullAt hc1 (nI h) (nI n) pst
      obtain ⟨F1, f1, y2⟩ := r_pullOf hc1 (nI h) F f
      rw [h2] at y2
      rw [y1, p_b2, y2, p_b3]
      obtain ⟨C1, cell1, broken1, fell1, tk1, st1, R1, F2, f2, z1, z2, z3, z4, z5, z6⟩ := r_goes (hour := nI h) (w := plv len o v d (nI h) (nI h / 12) (nI n)) (plv_lt _ _ _ _ _ _ _) 400 400 n 0 C cell broken fell taken bst R F1 f1 (by omega) (by omega) (by omega) hT hb hf hc2
      unfold s_House_passHour s_M_goes
      rw [show (0 : Int32) = nI 0 from rfl] 
      rw [z1, p_b6, show s_M_goes_c2 (nI (plv len o v d (nI h) (nI h / 12) (nI n))) (nI 0) 400 (nI 0) R F1 f1 = _ from z2, p_b3, show nI h + (1 : Int32) = nI (h + 1) from nI_add h 1, show nI i + (1 : Int32) = nI (i + 1) from nI_add i 1]
      have e0 : R1 0 = nI h := (z6 0 (by omega)).trans h0
      obtain ⟨r, C', cell', broken', fell', tk', pst', bst', R', F', f', a1, a2, a3, a4, a5, a6, a7, a8⟩ := ih fuel' q (i + 1) (h + 1) C1 cell1 broken1 fell1 tk1 pst1 st1 (upd R1 0 (R1 0 + 1)) F2 f2 (by omega) (by omega) (by omega) (by omega) (by rw [pk_us, e0]; exact nI_add h 1) (ThR_on z3 (fun j _ _ j0 => pk_un j0)) (fun u hu => by rw [pk_un (by omega)]; exact z4 u hu) (fun u hu => by rw [pk_un (by omega)]; exact z5 u hu) (CdR_on hc1 (fun j j1 j2 => by rw [pk_un (by omega)]; exact z6 j (by omega))) (CdR_on hc2 (fun j j1 j2 => by rw [pk_un (by omega)]; exact z6 j (by omega)))
      refine ⟨r, C', cell', broken', fell', tk', pst', bst', R', F', f', ?_, a2, a3, a4, a5, a6, ?_, ?_⟩
      · rw [show h + (q + 1) = h + 1 + q by omega]; exact a1
      · rw [show h + (q + 1) = h + 1 + q by omega]; exact a7
      · intro j j1 j2
        rw [a8 j j1 j2, pk_un j1]
        exact z6 j j2
theorem q_hours {kind m cell broken fell : Nat → Int32} {count hour : Int32} {taken walls : Int64} {psteps pstack bsteps bstack : Nat → Int32} {pcnt bcnt : Int32} {R E E2 : Nat → Int32} (hT : RTh kind m cell broken fell count taken walls R) (hh : RHr hour R) (hc : RCd psteps pcnt 155 R) (hb : RCd bsteps bcnt 276 R) (hE : ErR E E2) (a : Int32) (F f : Nat → Int32) :
    ∃ r cell' broken' fell' taken' hour' st' st2' E' R' E2' F' f', s_X_hours a kind m cell broken fell count taken walls hour psteps pstack pcnt bsteps bstack bcnt E = some (r, cell', broken', fell', taken', hour', st', st2', E') ∧ s_M_hours a R E2 F f = some (r, R', E2', F', f') ∧ RTh kind m cell' broken' fell' count taken' walls R' ∧ RHr hour' R' ∧ ErR E' E2' ∧ frH R R' := by
  obtain ⟨E1, F1, x1, x2, x3⟩ := p_err hE (k := 1) (by omega)
  obtain ⟨E3, F3, y1, y2, y3⟩ := p_err hE (k := 3) (by omega)
  obtain ⟨n, K, M, C, h, hbr, hf, hu⟩ := id hT
  obtain ⟨hn, h1, h2, -⟩ := id h
  obtain ⟨hr, hr1, rfl, hr2⟩ := id hh
  obtain ⟨len, o, v, d, hc⟩ := hc
  obtain ⟨len2, o2, v2, d2, hb⟩ := hb
  rcases p_rg a 1 100 (by omega) (by omega) with ⟨hM, hX⟩ | ⟨j, hj1, hj, rfl, hM, hX⟩
  · refine ⟨eL 1, cell, broken, fell, taken, nI hr, pstack, bstack, E1, R, F1, F, f, ?_, ?_, hT, hh, x3, fun _ _ _ => rfl⟩
    · unfold s_X_hours
      refine (hX _ _).trans ?_
      unfold s_X_hours_c11
      rw [show (1 : Int32) = nI 1 from rfl, x1, p_b2]
    · unfold s_M_hours
      rw [show s_M_in a (1 : Int32) (100 : Int32) = some 0 from hM, p_b1, if_pos rfl, show (-1000000001 : Int32) = eL 1 from by decide, x2, p_b2]
  · by_cases c : hr + j ≤ 9999
    · subst h1
      obtain ⟨r, C', cell', broken', fell', tk', pst', bst', R', F', f', a1, a2, a3, a4, a5, a6, a7, a8⟩ := p_hours (E := E) hj 400 400 j 0 hr C cell broken fell taken pstack bstack R F f (by omega) (by omega) (by omega) c hr2 h hbr hf hc hb
      refine ⟨r, cell', broken', fell', tk', nI (hr + j), pst', bst', E, R', E2, F', f', ?_, ?_, ⟨n, K, M, C', a4, a5, a6, hu⟩, ⟨hr + j, c, rfl, a7⟩, hE, a8⟩
      · unfold s_X_hours
        refine (hX _ _).trans ?_
        rw [nI_add, if_pos (show nI (hr + j) ≤ (9999 : Int32) from nI_le (b := 9999) (by omega) (by omega))]
        exact a1
      · unfold s_M_hours s_M_goesOn
        rw [show s_M_in (nI j) (1 : Int32) (100 : Int32) = some 1 from hM, p_b1, if_neg (show ¬ (1 : Int32) = 0 by decide), show (0 : Int32).toNatClampNeg = 0 from rfl, hr2, nI_add, if_pos (show nI (hr + j) ≤ (9999 : Int32) from nI_le (b := 9999) (by omega) (by omega)), show (0 : Int32) = nI 0 from rfl, a2, p_b3, a3, p_b1]
    · refine ⟨eL 3, cell, broken, fell, taken, nI hr, pstack, bstack, E3, R, F3, F, f, ?_, ?_, hT, hh, y3, fun _ _ _ => rfl⟩
      · unfold s_X_hours
        refine (hX _ _).trans ?_
        rw [nI_add, if_neg (show ¬ nI (hr + j) ≤ (9999 : Int32) from nI_ge (a := 9999) (by omega) (by omega)), show (3 : Int32) = nI 3 from rfl, y1, p_b2]
      · unfold s_M_hours
        rw [show s_M_in (nI j) (1 : Int32) (100 : Int32) = some 1 from hM, p_b1, if_neg (show ¬ (1 : Int32) = 0 by decide), show (0 : Int32).toNatClampNeg = 0 from rfl, hr2, nI_add, if_neg (show ¬ nI (hr + j) ≤ (9999 : Int32) from nI_ge (a := 9999) (by omega) (by omega)), show (-1000000003 : Int32) = eL 3 from by decide, y2, p_b2]
