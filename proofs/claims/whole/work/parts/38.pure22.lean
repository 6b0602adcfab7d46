/-! pure 24: rooms, soonest, shut -/
def plh (len : Nat) (o v d : Nat → Nat) (h n j : Nat) : Nat := plv len o v d (nI (h + j)) (nI (h + j) / 12) (nI n)
theorem plh_lt (len : Nat) (o v d : Nat → Nat) (h n j : Nat) : plh len o v d h n j < 4 := plv_lt _ _ _ _ _ _ _
theorem p_plX {pulls : Nat → Int32} {i : Nat} (hi : i < 100) : s_Thought_pullOf (nI i) pulls = some (pulls i) := by
  unfold s_Thought_pullOf
  rw [if_neg (p_nlt0 (by omega)), if_neg (show ¬ (100 : Int32) ≤ nI i from nI_ge (b := 100) (by omega) (by omega)), p_chk hi (by omega), nI_clamp (by omega)]
theorem p_plM {len h n : Nat} {o v d : Nat → Nat} {psteps : Nat → Int32} {pcnt : Int32} {R : Nat → Int32} (hc : CdR len o v d psteps pcnt 155 R) (h0 : R 0 = nI h) (h2 : R 2 = nI n) (i : Nat) (F f : Nat → Int32) : ∃ F' f', s_M_pullOf ((R (0 : Int32).toNatClampNeg) + nI i) R F f = some (nI (plh len o v d h n i), F', f') := by
  obtain ⟨F', f', e⟩ := r_pullOf hc (nI (h + i)) F f
  refine ⟨F', f', ?_⟩
  rw [show (0 : Int32).toNatClampNeg = 0 from rfl, h0, nI_add, e, h2]
  rfl
theorem p_roomsL {len h n m : Nat} {o v d : Nat → Nat} {psteps pulls rests st E E2 : Nat → Int32} {pcnt : Int32} {R : Nat → Int32} {wl : Int64} (hm : m ≤ 100) (hc : CdR len o v d psteps pcnt 155 R) (h0 : R 0 = nI h) (h2 : R 2 = nI n) (hp : ∀ j, j < m → pulls j = nI (plh len o v d h n j)) (hL : LdR rests wl) (hW : hWl wl R) : ∀ (fuel fuel' q i : Nat) (set : Int64) (F f : Nat → Int32), i + q = m → q < fuel → q < fuel' → ∃ s F' f', s_X_rooms_c83 (nI m) st pulls rests wl E fuel set (nI i) = some (s, st, pulls, rests, wl, E) ∧ s_M_rooms_c40 (nI m) R E2 fuel' set (nI i) F f = some (s, E2, F', f') := by
  intro fuel
  induction fuel with
  | zero => intro fuel' q i set F f _ h; exact absurd h (Nat.not_lt_zero _)
  | succ fuel ih =>
    intro fuel' q i set F f hq hf hf'
    cases fuel' with
    | zero => exact absurd hf' (Nat.not_lt_zero _)
    | succ fuel' =>
    rw [s_X_rooms_c83, s_M_rooms_c40]
    cases q with
    | zero =>
      rw [if_pos (nI_le (by omega) (by omega)), if_pos (nI_le (by omega) (by omega))]
      exact ⟨set, F, f, rfl, rfl⟩
    | succ q =>
      obtain ⟨F1, f1, y1⟩ := p_plM hc h0 h2 i F f
      obtain ⟨s1, y2, y3⟩ := p_on hL hW (plh_lt len o v d h n i) set
      rw [if_neg (nI_ge (by omega) (by omega)), if_neg (nI_ge (by omega) (by omega)), p_plX (by omega), p_b1, hp i (by omega), y2, p_b1, y1, p_b3, y3, p_b1, nI_1]
      exact ih fuel' q (i + 1) (set ||| s1) F1 f1 (by omega) (by omega) (by omega)
theorem q_rooms {kind m cell broken fell : Nat → Int32} {count hour : Int32} {taken walls wl0 : Int64} {psteps pstack pulls rests : Nat → Int32} {pcnt : Int32} {R E E2 : Nat → Int32} (hT : RTh kind m cell broken fell count taken walls R) (hh : RHr hour R) (hc : RCd psteps pcnt 155 R) (hE : ErR E E2) (a b : Int32) (F f : Nat → Int32) :
    ∃ r st' pulls' rests' wl' E' E2' F' f', s_X_rooms a b count walls hour psteps pstack pcnt pulls rests wl0 E = some (r, st', pulls', rests', wl', E') ∧ s_M_rooms a b R E2 F f = some (r, E2', F', f') ∧ ErR E' E2' := by
  have hW := RTh_wl hT
  obtain ⟨n, K, M, C, h, -, -, -⟩ := hT
  obtain ⟨hn, h1, h2, -⟩ := h
  obtain ⟨hr, hr1, rfl, hr2⟩ := hh
  obtain ⟨len, o, v, d, hc⟩ := hc
  obtain ⟨E1, F1, x1, x2, x3⟩ := p_err hE (k := 1) (by omega)
  obtain ⟨E3, F3, y1, y2, y3⟩ := p_err hE (k := 3) (by omega)
  have oX : s_X_rooms_c17 pstack pulls rests wl0 E = some (j_i2l (eL 1), pstack, pulls, rests, wl0, E1) := by
    unfold s_X_rooms_c17
    rw [show (1 : Int32) = nI 1 from rfl, x1, p_b2]
  have oM : ∀ a b, s_M_rooms_c20 a b R E2 F f (eL 1) = some (j_i2l (eL 1), F1, F, f) := by
    intro a b
    unfold s_M_rooms_c20
    rw [if_neg (eL_ne 1 (by omega)), x2, p_b2]
  unfold s_X_rooms s_M_rooms
  rw [show (-1000000001 : Int32) = eL 1 from by decide]
  rcases p_ix a 36 (by omega) with ho | ⟨c, hcc, rfl⟩
  · refine ⟨j_i2l (eL 1), pstack, pulls, rests, wl0, E1, F1, F, f, ?_, ?_, x3⟩
    · rw [(p_cO ho).1, p_b1, if_pos rfl, oX]
    · rcases p_rg b 0 100 (by omega) (by omega) with ⟨hM, -⟩ | ⟨j, -, hj, rfl, hM, -⟩
      · rw [show s_M_in b (0 : Int32) (100 : Int32) = some 0 from hM, p_b1, if_pos rfl, oM]
      · rw [show s_M_in (nI j) (0 : Int32) (100 : Int32) = some 1 from hM, p_b1, if_neg (show ¬ (1 : Int32) = 0 by decide), p_nrO ho, p_b1, oM]
  · rw [(p_cI hcc).1, p_b1, if_neg (show ¬ (1 : Int32) = 0 by decide)]
    rcases p_rg b 0 100 (by omega) (by omega) with ⟨hM, hX⟩ | ⟨j, -, hj, rfl, hM, hX⟩
    · refine ⟨j_i2l (eL 1), pstack, pulls, rests, wl0, E1, F1, F, f, ?_, ?_, x3⟩
      · exact (hX _ _).trans oX
      · rw [show s_M_in b (0 : Int32) (100 : Int32) = some 0 from hM, p_b1, if_pos rfl, oM]
    · rw [show s_M_in (nI j) (0 : Int32) (100 : Int32) = some 1 from hM, p_b1, if_neg (show ¬ (1 : Int32) = 0 by decide), p_nrI hW hcc, p_b1, p_wallAt (by omega)]
      unfold s_M_rooms_c20
      cases hb : bL walls c with
      | true =>
        refine ⟨j_i2l (eL 3), pstack, pulls, rests, wl0, E3, F3, F, f, ?_, ?_, y3⟩
        · refine (hX _ _).trans ?_
          rw [p_b1, if_pos (show (if true = true then (1 : Int32) else 0) = 1 from rfl), show (3 : Int32) = nI 3 from rfl, y1, p_b2]
        · rw [if_pos (show true = true from rfl), if_neg (eL_ne 3 (by omega)), y2, p_b2]
      | false =>
        obtain ⟨rests', l1, l2⟩ := p_learn walls wl0 rests
        obtain ⟨pulls', st', z1, z2⟩ := p_fores (h := hr) (n := nI n) (m := j) (by omega) hc 400 j 0 pulls pstack (by omega) (by omega) (fun j hj => absurd hj (Nat.not_lt_zero _))
        obtain ⟨s, F', f', g1, g2⟩ := p_roomsL (len := len) (o := o) (v := v) (d := d) (pulls := pulls') (rests := rests') (st := st') (E := E) (E2 := E2) (R := R) (wl := walls) hj hc hr2 h2 z2 l2 hW 400 400 j 0 (j_lshl (1 : Int64) (nI c)) F f (by omega) (by omega) (by omega)
        refine ⟨s, st', pulls', rests', walls, E, E2, F', f', ?_, ?_, hE⟩
        · refine (hX _ _).trans ?_
          rw [p_b1, if_neg (show ¬ (if false = true then (1 : Int32) else 0) = 1 by decide)]
          unfold s_Thought_foresee
          rw [h1, show s_Thought_foresee_c3 (nI hr) (nI j) (nI n) psteps pcnt 400 (0 : Int32) pulls pstack = some (pulls', st') from z1, p_b2, l1, p_b2]
          exact g1
        · rw [if_neg (show ¬ false = true by decide), if_pos rfl]
          exact g2
theorem p_soonL {len h n t : Nat} {o v d : Nat → Nat} {psteps pulls rests st E : Nat → Int32} {pcnt : Int32} {R : Nat → Int32} {wl : Int64} (ht : t < 36) (hc : CdR len o v d psteps pcnt 155 R) (h0 : R 0 = nI h) (h2 : R 2 = nI n) (hp : ∀ j, j < 100 → pulls j = nI (plh len o v d h n j)) (hL : LdR rests wl) (hW : hWl wl R) : ∀ (fuel fuel' q i : Nat) (set : Int64) (F f : Nat → Int32), i + q = 100 → q < fuel → q + 1 < fuel' → ∃ r F' f', s_M_soonestOf_c7 (nI t) R fuel' set (nI i) F f = some (nI r, F', f') ∧ ((r ≤ 100 ∧ s_X_soonest_c91 (nI t) st pulls rests wl E fuel set (nI i) = some (nI r, st, pulls, rests, wl, E)) ∨ (r = 101 ∧ s_X_soonest_c91 (nI t) st pulls rests wl E fuel set (nI i) = j_b2 (s_X_error (2 : Int32) E) (fun r14 u15_errors => some (r14, st, pulls, rests, wl, u15_errors)))) := by
  intro fuel
  induction fuel with
  | zero => intro fuel' q i set F f _ h; exact absurd h (Nat.not_lt_zero _)
  | succ fuel ih =>
    intro fuel' q i set F f hq hf hf'
    cases fuel' with
    | zero => exact absurd hf' (Nat.not_lt_zero _)
    | succ fuel' =>
    rw [s_X_soonest_c91, s_M_soonestOf_c7, if_neg (show ¬ (100 : Int32) < nI i from nI_nlt (a := 100) (by omega) (by omega)), p_isIn set (by omega), p_b1]
    cases hb : bL set t with
    | true =>
      rw [if_neg (show ¬ lg_cmp (j_lshr set (nI t) &&& (1 : Int64)) (0 : Int64) = 0 from fun z => by rw [p_bit0 set (by omega), hb] at z; cases z)]
      refine ⟨i, F, f, rfl, Or.inl ⟨by omega, ?_⟩⟩
      cases q with
      | zero =>
        have : i = 100 := by omega
        subst this
        rw [if_pos (show (100 : Int32) ≤ nI 100 by decide), if_neg (show ¬ (if true = true then (1 : Int32) else 0) = 0 by decide)]
        rfl
      | succ q =>
        rw [if_neg (show ¬ (100 : Int32) ≤ nI i from nI_ge (b := 100) (by omega) (by omega)), p_b1, if_neg (show ¬ (if true = true then (1 : Int32) else 0) = 0 by decide)]
    | false =>
      obtain ⟨F1, f1, y1⟩ := p_plM hc h0 h2 i F f
      obtain ⟨s1, y2, y3⟩ := p_on hL hW (plh_lt len o v d h n i) set
      rw [if_pos ((p_bit0 set (by omega)).mpr hb), y1, p_b3, y3, p_b1, nI_1]
      cases q with
      | zero =>
        have : i = 100 := by omega
        subst this
        rw [if_pos (show (100 : Int32) ≤ nI 100 by decide), if_pos (show (if false = true then (1 : Int32) else 0) = 0 from rfl)]
        cases fuel' with
        | zero => exact absurd hf' (by omega)
        | succ fuel' =>
        rw [s_M_soonestOf_c7, if_pos (show (100 : Int32) < nI (100 + 1) by decide)]
        exact ⟨101, F1, f1, rfl, Or.inr ⟨rfl, rfl⟩⟩
      | succ q =>
        rw [if_neg (show ¬ (100 : Int32) ≤ nI i from nI_ge (b := 100) (by omega) (by omega)), p_b1, if_pos (show (if false = true then (1 : Int32) else 0) = 0 from rfl), p_plX (by omega), p_b1, hp i (by omega), y2, p_b1]
        exact ih fuel' q (i + 1) (set ||| s1) F1 f1 (by omega) (by omega) (by omega)
theorem q_soonest {kind m cell broken fell : Nat → Int32} {count hour : Int32} {taken walls wl0 : Int64} {psteps pstack pulls rests : Nat → Int32} {pcnt : Int32} {R E E2 : Nat → Int32} (hT : RTh kind m cell broken fell count taken walls R) (hh : RHr hour R) (hc : RCd psteps pcnt 155 R) (hE : ErR E E2) (a b : Int32) (F f : Nat → Int32) :
    ∃ r st' pulls' rests' wl' E' E2' F' f', s_X_soonest a b count walls hour psteps pstack pcnt pulls rests wl0 E = some (r, st', pulls', rests', wl', E') ∧ s_M_soonest a b R E2 F f = some (r, E2', F', f') ∧ ErR E' E2' := by
  have hW := RTh_wl hT
  obtain ⟨n, K, M, C, h, -, -, -⟩ := hT
  obtain ⟨hn, h1, h2, -⟩ := h
  obtain ⟨hr, hr1, rfl, hr2⟩ := hh
  obtain ⟨len, o, v, d, hc⟩ := hc
  obtain ⟨E1, F1, x1, x2, x3⟩ := p_err hE (k := 1) (by omega)
  obtain ⟨E2', F2, w1, w2, w3⟩ := p_err hE (k := 2) (by omega)
  obtain ⟨E3, F3, y1, y2, y3⟩ := p_err hE (k := 3) (by omega)
  have oX : s_X_soonest_c14 pstack pulls rests wl0 E = some (eL 1, pstack, pulls, rests, wl0, E1) := by
    unfold s_X_soonest_c14
    rw [show (1 : Int32) = nI 1 from rfl, x1, p_b2]
  have oX3 : s_X_soonest_c44 pstack pulls rests wl0 E = some (eL 3, pstack, pulls, rests, wl0, E3) := by
    unfold s_X_soonest_c44
    rw [show (3 : Int32) = nI 3 from rfl, y1, p_b2]
  have oM1 : ∀ a b, s_M_soonest_c31 a b R E2 F f (eL 1) = some (eL 1, F1, F, f) := by
    intro a b
    unfold s_M_soonest_c31
    rw [if_neg (eL_ne 1 (by omega)), x2, p_b2]
  have oM3 : ∀ a b, s_M_soonest_c31 a b R E2 F f (eL 3) = some (eL 3, F3, F, f) := by
    intro a b
    unfold s_M_soonest_c31
    rw [if_neg (eL_ne 3 (by omega)), y2, p_b2]
  have oN1 : ∀ a b, s_M_soonest_c17 a b R E2 F f (eL 1) = some (eL 1, F1, F, f) := by
    intro a b
    unfold s_M_soonest_c17
    rw [if_neg (eL_ne 1 (by omega)), oM1]
  have oN3 : ∀ a b, s_M_soonest_c17 a b R E2 F f (eL 3) = some (eL 3, F3, F, f) := by
    intro a b
    unfold s_M_soonest_c17
    rw [if_neg (eL_ne 3 (by omega)), oM3]
  unfold s_X_soonest s_M_soonest
  rw [show (-1000000001 : Int32) = eL 1 from by decide]
  rcases p_ix a 36 (by omega) with ho | ⟨c, hcc, rfl⟩
  · refine ⟨eL 1, pstack, pulls, rests, wl0, E1, F1, F, f, ?_, ?_, x3⟩
    · rw [(p_cO ho).1, p_b1, if_pos rfl, oX]
    · rcases p_ix b 36 (by omega) with hb | ⟨t, ht, rfl⟩
      · rw [(p_cO hb).2, p_b1, if_pos rfl, oN1]
      · rw [(p_cI ht).2, p_b1, if_neg (show ¬ (1 : Int32) = 0 by decide), p_nrO ho, p_b1, oN1]
  · rw [(p_cI hcc).1, p_b1, if_neg (show ¬ (1 : Int32) = 0 by decide)]
    rcases p_ix b 36 (by omega) with hb | ⟨t, ht, rfl⟩
    · refine ⟨eL 1, pstack, pulls, rests, wl0, E1, F1, F, f, ?_, ?_, x3⟩
      · rw [(p_cO hb).1, p_b1, if_pos rfl, oX]
      · rw [(p_cO hb).2, p_b1, if_pos rfl, oN1]
    · rw [(p_cI ht).1, p_b1, if_neg (show ¬ (1 : Int32) = 0 by decide), (p_cI ht).2, p_b1, if_neg (show ¬ (1 : Int32) = 0 by decide), p_wallAt (by omega), p_b1, p_nrI hW hcc, p_b1]
      cases hb : bL walls c with
      | true =>
        refine ⟨eL 3, pstack, pulls, rests, wl0, E3, F3, F, f, ?_, ?_, y3⟩
        · rw [if_pos (show (if true = true then (1 : Int32) else 0) = 1 from rfl), oX3]
        · rw [if_pos (show true = true from rfl), oN3]
      | false =>
        rw [if_neg (show ¬ (if false = true then (1 : Int32) else 0) = 1 by decide), if_neg (show ¬ false = true by decide), p_wallAt (by omega), p_b1]
        unfold s_M_soonest_c17
        rw [if_pos rfl, p_nrI hW ht, p_b1]
        cases hb2 : bL walls t with
        | true =>
          refine ⟨eL 3, pstack, pulls, rests, wl0, E3, F3, F, f, ?_, ?_, y3⟩
          · rw [if_pos (show (if true = true then (1 : Int32) else 0) = 1 from rfl), oX3]
          · rw [if_pos (show true = true from rfl), oM3]
        | false =>
          obtain ⟨rests', l1, l2⟩ := p_learn walls wl0 rests
          obtain ⟨pulls', st', z1, z2⟩ := p_fores (h := hr) (n := nI n) (m := 100) (by omega) hc 400 100 0 pulls pstack (by omega) (by omega) (fun j hj => absurd hj (Nat.not_lt_zero _))
          obtain ⟨r, F', f', g1, g2⟩ := p_soonL (len := len) (o := o) (v := v) (d := d) (pulls := pulls') (rests := rests') (st := st') (E := E) (R := R) (wl := walls) ht hc hr2 h2 z2 l2 hW 400 400 100 0 (j_lshl (1 : Int64) (nI c)) F f (by omega) (by omega) (by omega)
          rw [if_neg (show ¬ (if false = true then (1 : Int32) else 0) = 1 by decide), if_neg (show ¬ false = true by decide)]
          unfold s_Thought_foresee s_M_soonest_c31 s_M_soonestOf
          rw [if_pos rfl, h1, show s_Thought_foresee_c3 (nI hr) (100 : Int32) (nI n) psteps pcnt 400 (0 : Int32) pulls pstack = some (pulls', st') from z1, p_b2, l1, p_b2, show s_M_soonestOf_c7 (nI t) R 400 (j_lshl (1 : Int64) (nI c)) (0 : Int32) F f = some (nI r, F', f') from g1, p_b3, show (-1000000002 : Int32) = eL 2 from by decide]
          rcases g2 with ⟨hr3, g2⟩ | ⟨rfl, g2⟩
          · refine ⟨nI r, st', pulls', rests', walls, E, E2, F', f', g2, ?_, hE⟩
            rw [if_pos (show nI r ≤ (100 : Int32) from nI_le (b := 100) hr3 (by omega))]
          · refine ⟨eL 2, st', pulls', rests', walls, E2', F2, F', f', g2.trans ?_, ?_, w3⟩
            · rw [show (2 : Int32) = nI 2 from rfl, w1, p_b2]
            · rw [if_neg (show ¬ nI 101 ≤ (100 : Int32) by decide), w2, p_b2]
