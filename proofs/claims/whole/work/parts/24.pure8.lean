/-! pure 10: what is asked of things -/
theorem p_km {x : Int32} (h : x < 0 ∨ nI 70 ≤ x) : s_Kinds_isKindAndNumber x = some 0 ∧ s_M_isKm x = some 0 := by
  constructor
  · unfold s_Kinds_isKindAndNumber
    rcases h with h | h
    · rw [if_pos h]
    · by_cases c : x < 0
      · rw [if_pos c]
      · rw [if_neg c, if_pos (show (70 : Int32) ≤ x from h)]
  · unfold s_M_isKm
    rw [show (69 : Int32) = nI 69 from rfl, p_inO (by omega) h, p_b1, p_bz (Or.inl rfl)]
theorem p_kmI {k : Nat} (h : k < 70) : s_Kinds_isKindAndNumber (nI k) = some 1 ∧ s_M_isKm (nI k) = some 1 := by
  constructor
  · unfold s_Kinds_isKindAndNumber
    rw [if_neg (p_nlt0 (by omega)), if_neg (show ¬ (70 : Int32) ≤ nI k from nI_ge (b := 70) (by omega) (by omega))]
  · unfold s_M_isKm
    rw [show (69 : Int32) = nI 69 from rfl, p_inI (by omega) (by omega), p_b1, p_bz (Or.inr rfl)]
theorem p_le1 {b : Int32} {N : Nat} (hN : N < 2 ^ 30) (ho : b < 0 ∨ nI (N + 1) ≤ b) (c1 : ¬ b < 0) : ¬ b ≤ nI N := by
  rcases ho with ho | ho
  · exact absurd ho c1
  · rw [Int32.le_iff_toInt_le, p_ti (N + 1) (by omega)] at ho
    rw [Int32.le_iff_toInt_le, p_ti N (by omega)]
    omega
theorem q_cellIs {kind m cell broken fell : Nat → Int32} {count : Int32} {taken walls : Int64} {R E E2 : Nat → Int32} (hT : RTh kind m cell broken fell count taken walls R) (hE : ErR E E2) (a b : Int32) :
    ∃ r E' E2', s_X_cellIs a b cell count walls E = some (r, E') ∧ s_M_cellIs a b R E2 = some (r, E2') ∧ ErR E' E2' := by
  obtain ⟨n, K, M, C, h, hb, hf, hu⟩ := id hT
  obtain ⟨hn, h1, h2, h3, h4, h5, h6, h7, h8, h9⟩ := id h
  obtain ⟨E1, F1, x1, x2, x3⟩ := p_err hE (k := 1) (by omega)
  rcases p_ix a 36 (by omega) with ho | ⟨c, hc, rfl⟩
  · refine ⟨eL 1, E1, F1, ?_, ?_, x3⟩
    · unfold s_X_cellIs s_X_cellIs_c16
      rw [(p_cO ho).1, p_b1, if_pos rfl, show (1 : Int32) = nI 1 from rfl, x1, p_b2]
    · unfold s_M_cellIs s_M_cellIs_c16
      rw [(p_cO ho).2, p_b1, if_pos rfl, show (-1000000001 : Int32) = eL 1 from by decide, x2, p_b2]
  · rcases p_ix b 2 (by omega) with ho | ⟨j, hj, rfl⟩
    · refine ⟨eL 1, E1, F1, ?_, ?_, x3⟩
      · unfold s_X_cellIs s_X_cellIs_c16
        rw [(p_cI hc).1, p_b1, if_neg (by decide)]
        by_cases c1 : b < 0
        · rw [if_pos c1, show (1 : Int32) = nI 1 from rfl, x1, p_b2]
        · rw [if_neg c1, if_neg (show ¬ b ≤ (1 : Int32) from p_le1 (N := 1) (by omega) ho c1), show (1 : Int32) = nI 1 from rfl, x1, p_b2]
      · unfold s_M_cellIs s_M_cellIs_c16
        rw [(p_cI hc).2, p_b1, if_neg (by decide), show s_M_in b 0 1 = some 0 from p_inO (N := 1) (by omega) ho, p_b1, if_pos rfl, show (-1000000001 : Int32) = eL 1 from by decide, x2, p_b2]
    · rcases (show j = 0 ∨ j = 1 by omega) with e | e <;> subst e
      · refine ⟨if bL walls c = true then 1 else 0, E, E2, ?_, ?_, hE⟩
        · unfold s_X_cellIs
          rw [(p_cI hc).1, p_b1, if_neg (by decide), if_neg (by decide), if_pos (by decide), if_pos (by decide), p_wallAt (by omega), p_b1]
        · unfold s_M_cellIs
          rw [(p_cI hc).2, p_b1, if_neg (by decide), show s_M_in (nI 0) 0 1 = some 1 from p_inI (N := 1) (by omega) (by omega), p_b1, if_neg (by decide), if_pos (by decide), show (5 : Int32) + nI c = nI (5 + c) from nI_add 5 c, p_chk (by omega) (by omega), nI_clamp (by omega), h9 c hc]
      · refine ⟨fd (fun t => decide (cell t = nI c)) n 0, E, E2, ?_, ?_, hE⟩
        · unfold s_X_cellIs
          rw [(p_cI hc).1, p_b1, if_neg (by decide), if_neg (by decide), if_pos (by decide), if_neg (by decide), h1, p_tin _ _ hn, p_b1]
        · unfold s_M_cellIs
          rw [(p_cI hc).2, p_b1, if_neg (by decide), show s_M_in (nI 1) 0 1 = some 1 from p_inI (N := 1) (by omega) (by omega), p_b1, if_neg (by decide), if_neg (by decide), p_min _ _ hn h2, p_b1, p_fdEq h]
theorem q_thingIs {kind m cell broken fell : Nat → Int32} {count : Int32} {taken walls : Int64} {R E E2 : Nat → Int32} (hT : RTh kind m cell broken fell count taken walls R) (hE : ErR E E2) (a b : Int32) :
    ∃ r E' E2', s_X_thingIs a b kind m cell broken fell count E = some (r, E') ∧ s_M_thingIs a b R E2 = some (r, E2') ∧ ErR E' E2' := by
  obtain ⟨n, K, M, C, h, hb, hf, hu⟩ := id hT
  obtain ⟨hn, h1, h2, h3, h4, h5, h6, h7, h8, h9⟩ := id h
  obtain ⟨E1, F1, x1, x2, x3⟩ := p_err hE (k := 1) (by omega)
  rcases p_ix a n (by omega) with ho | ⟨t, ht, rfl⟩
  · refine ⟨eL 1, E1, F1, ?_, ?_, x3⟩
    · unfold s_X_thingIs s_X_thingIs_c23
      rw [h1, p_hO ho, p_b1, if_pos rfl, show (1 : Int32) = nI 1 from rfl, x1, p_b2]
    · unfold s_M_thingIs s_M_thingIs_c26
      rw [p_thO hn h2 ho, p_b1, if_pos rfl, show (-1000000001 : Int32) = eL 1 from by decide, x2, p_b2]
  · rcases p_ix b 5 (by omega) with ho | ⟨j, hj, rfl⟩
    · refine ⟨eL 1, E1, F1, ?_, ?_, x3⟩
      · unfold s_X_thingIs s_X_thingIs_c23
        rw [h1, p_has ht hn, p_b1, if_neg (by decide)]
        by_cases c1 : b < 0
        · rw [if_pos c1, show (1 : Int32) = nI 1 from rfl, x1, p_b2]
        · rw [if_neg c1, if_neg (show ¬ b ≤ (4 : Int32) from p_le1 (N := 4) (by omega) ho c1), show (1 : Int32) = nI 1 from rfl, x1, p_b2]
      · unfold s_M_thingIs s_M_thingIs_c26
        rw [p_thI hn h2 ht, p_b1, if_neg (by decide), show s_M_in b 0 4 = some 0 from p_inO (N := 4) (by omega) ho, p_b1, if_pos rfl, show (-1000000001 : Int32) = eL 1 from by decide, x2, p_b2]
    · refine ⟨R (41 + 5 * t + j), E, E2, ?_, ?_, hE⟩
      · unfold s_X_thingIs
        rw [h1, p_has ht hn, p_b1, if_neg (by decide), if_neg (p_nlt0 (by omega)), if_pos (show nI j ≤ (4 : Int32) from nI_le (b := 4) (by omega) (by omega))]
        have : s_Things_ofThing (nI t) (nI j) kind m cell broken fell (nI n) = some (R (41 + 5 * t + j)) := by
          unfold s_Things_ofThing
          rw [p_has ht hn, p_b1, if_neg (by decide), p_chk (by omega) (by omega), p_chk (by omega) (by omega), p_chk (by omega) (by omega), p_chk (by omega) (by omega), p_chk (by omega) (by omega), nI_clamp (by omega)]
          rcases (show j = 0 ∨ j = 1 ∨ j = 2 ∨ j = 3 ∨ j = 4 by omega) with e | e | e | e | e <;> subst e
          · rw [if_pos (by rfl), (h3 t ht).1, Nat.add_zero, (h3 t ht).2.2]
          · rw [if_neg (by decide), if_pos (by rfl), (h4 t ht).1, show 41 + 5 * t + 1 = 42 + 5 * t by omega, (h4 t ht).2.2]
          · rw [if_neg (by decide), if_neg (by decide), if_pos (by rfl), (h5 t ht).1, show 41 + 5 * t + 2 = 43 + 5 * t by omega, (h5 t ht).2.2]
          · rw [if_neg (by decide), if_neg (by decide), if_neg (by decide), if_pos (by rfl), hb t ht, show 41 + 5 * t + 3 = 44 + 5 * t by omega]
          · rw [if_neg (by decide), if_neg (by decide), if_neg (by decide), if_neg (by decide), hf t ht, show 41 + 5 * t + 4 = 45 + 5 * t by omega]
        rw [this, p_b1]
      · unfold s_M_thingIs
        rw [p_thI hn h2 ht, p_b1, if_neg (by decide), show s_M_in (nI j) 0 4 = some 1 from p_inI (N := 4) (by omega) (by omega), p_b1, if_neg (by decide), p_of (by omega) hj, p_b1]
theorem p_div10 {k : Nat} (h : k < 70) : nI k / (10 : Int32) = nI (k / 10) ∧ nI k - nI k / (10 : Int32) * (10 : Int32) = nI (k % 10) := ⟨pk_div (d := 10) (by omega) (by decide) (by decide), pk_rem (d := 10) (by omega) (by decide) (by decide)⟩
theorem q_become {kind m cell broken fell : Nat → Int32} {count : Int32} {taken walls : Int64} {R E E2 : Nat → Int32} (hT : RTh kind m cell broken fell count taken walls R) (hE : ErR E E2) (a b : Int32) :
    ∃ r kind' m' E' R' E2', s_X_become a b kind m count E = some (r, kind', m', E') ∧ s_M_become a b R E2 = some (r, R', E2') ∧ RTh kind' m' cell broken fell count taken walls R' ∧ ErR E' E2' ∧ frT R R' := by
  obtain ⟨n, K, M, C, h, hb, hf, hu⟩ := id hT
  obtain ⟨hn, h1, h2, h3, h4, h5, h6, h7, h8, h9⟩ := id h
  obtain ⟨E1, F1, x1, x2, x3⟩ := p_err hE (k := 1) (by omega)
  rcases p_ix a n (by omega) with ho | ⟨t, ht, rfl⟩
  · refine ⟨eL 1, kind, m, E1, R, F1, ?_, ?_, hT, x3, frT_rf⟩
    · unfold s_X_become s_X_become_c21
      rw [h1, p_hO ho, p_b1, if_pos rfl, show (1 : Int32) = nI 1 from rfl, x1, p_b2]
    · unfold s_M_become s_M_become_c15
      rw [p_thO hn h2 ho, p_b1, if_pos rfl, show (-1000000001 : Int32) = eL 1 from by decide, x2, p_b2]
  · rcases p_ix b 70 (by omega) with ho | ⟨k, hk, rfl⟩
    · refine ⟨eL 1, kind, m, E1, R, F1, ?_, ?_, hT, x3, frT_rf⟩
      · unfold s_X_become s_X_become_c21
        rw [h1, p_has ht hn, p_b1, if_neg (by decide), (p_km ho).1, p_b1, if_pos rfl, show (1 : Int32) = nI 1 from rfl, x1, p_b2]
      · unfold s_M_become s_M_become_c15
        rw [p_thI hn h2 ht, p_b1, if_neg (by decide), (p_km ho).2, p_b1, if_pos rfl, show (-1000000001 : Int32) = eL 1 from by decide, x2, p_b2]
    · refine ⟨nI (K t), upd kind t (nI (k / 10)), upd m t (nI (k % 10)), E, upd (upd R (42 + 5 * t) (nI (k % 10))) (41 + 5 * t) (nI (k / 10)), E2, ?_, ?_, ?_, hE, frT_tr (frT_upd (by omega)) (frT_upd (by omega))⟩
      · unfold s_X_become
        rw [h1, p_has ht hn, p_b1, if_neg (by decide), (p_kmI hk).1, p_b1, if_neg (by decide), p_chk (by omega) (by omega)]
        unfold s_Things_setKind
        rw [p_has ht hn, p_b1, if_neg (by decide), p_chk (by omega) (by omega), p_chk (by omega) (by omega), nI_clamp (by omega), (p_div10 hk).2, (p_div10 hk).1, p_b2, (h3 t ht).1]
      · unfold s_M_become
        rw [p_thI hn h2 ht, p_b1, if_neg (by decide), (p_kmI hk).2, p_b1, if_neg (by decide), (p_div10 hk).2, (p_div10 hk).1, show (1 : Int32) = nI 1 from rfl, p_lay _ (by omega) (by omega), p_b1, show 41 + 5 * t + 1 = 42 + 5 * t by omega, show (41 : Int32) + ((5 : Int32) * nI t) = nI (41 + 5 * t) from by rw [p_lit 41, p_lit 5, pk_mul, nI_add], p_becomes (by omega), p_b2, pk_un (by omega), (h3 t ht).2.2]
      · refine ⟨n, fun u => if u = t then k / 10 else K u, fun u => if u = t then k % 10 else M u, C, ⟨hn, h1, by rw [pk_un (by omega), pk_un (by omega)]; exact h2, fun u hu2 => ?_, fun u hu2 => ?_, fun u hu2 => by rw [pk_un (by omega), pk_un (by omega)]; exact h5 u hu2, h6, h7, h8, fun c hc => by rw [pk_un (by omega), pk_un (by omega)]; exact h9 c hc⟩, fun u hu2 => by rw [pk_un (by omega), pk_un (by omega)]; exact hb u hu2, fun u hu2 => by rw [pk_un (by omega), pk_un (by omega)]; exact hf u hu2, hu⟩
        · by_cases q : u = t
          · simp only [q, if_true]
            rw [pk_us, pk_us]
            exact ⟨rfl, by omega, rfl⟩
          · simp only [if_neg q]
            rw [pk_un q, pk_un (by omega), pk_un (by omega)]
            exact h3 u hu2
        · by_cases q : u = t
          · simp only [q, if_true]
            rw [pk_us, pk_un (by omega), pk_us]
            exact ⟨rfl, by omega, rfl⟩
          · simp only [if_neg q]
            rw [pk_un q, pk_un (by omega), pk_un (by omega)]
            exact h4 u hu2
theorem q_carry {kind m cell broken fell : Nat → Int32} {count : Int32} {taken walls : Int64} {R E E2 : Nat → Int32} (hT : RTh kind m cell broken fell count taken walls R) (hE : ErR E E2) (a b : Int32) :
    ∃ r cell' taken' E' R' E2', s_X_carry a b cell count taken walls E = some (r, cell', taken', E') ∧ s_M_carry a b R E2 = some (r, R', E2') ∧ RTh kind m cell' broken fell count taken' walls R' ∧ ErR E' E2' ∧ frT R R' := by
  obtain ⟨n, K, M, C, h, hb, hf, hu⟩ := id hT
  obtain ⟨hn, h1, h2, h3, h4, h5, h6, h7, h8, h9⟩ := id h
  obtain ⟨E1, F1, x1, x2, x3⟩ := p_err hE (k := 1) (by omega)
  obtain ⟨E3, F3, y1, y2, y3⟩ := p_err hE (k := 3) (by omega)
  rcases p_ix a n (by omega) with ho | ⟨t, ht, rfl⟩
  · refine ⟨eL 1, cell, taken, E1, R, F1, ?_, ?_, hT, x3, frT_rf⟩
    · unfold s_X_carry s_X_carry_c21
      rw [h1, p_hO ho, p_b1, if_pos rfl, show (1 : Int32) = nI 1 from rfl, x1, p_b2]
    · unfold s_M_carry s_M_carry_c15
      rw [p_thO hn h2 ho, p_b1, if_pos rfl, show (-1000000001 : Int32) = eL 1 from by decide, x2, p_b2]
  · rcases p_ix b 36 (by omega) with ho | ⟨c, hc, rfl⟩
    · refine ⟨eL 1, cell, taken, E1, R, F1, ?_, ?_, hT, x3, frT_rf⟩
      · unfold s_X_carry s_X_carry_c21
        rw [h1, p_has ht hn, p_b1, if_neg (by decide), (p_cO ho).1, p_b1, if_pos rfl, show (1 : Int32) = nI 1 from rfl, x1, p_b2]
      · unfold s_M_carry s_M_carry_c15
        rw [p_thI hn h2 ht, p_b1, if_neg (by decide), (p_cO ho).2, p_b1, if_pos rfl, show (-1000000001 : Int32) = eL 1 from by decide, x2, p_b2]
    · have hCt := h5 t ht
      have eX : s_X_carry_c66 (nI t) (nI c) cell (nI n) taken E = some (nI (C t), upd cell t (nI c), (taken &&& ((j_lshl (1 : Int64) (nI (C t))) ^^^ (-1 : Int64))) ||| (j_lshl (1 : Int64) (nI c)), E) := by
        unfold s_X_carry_c66 s_Things_place
        rw [p_chk (by omega) (by omega), p_has ht hn, p_b1, if_neg (by decide), p_chk (by omega) (by omega), p_chk (by omega) (by omega), nI_clamp (by omega), p_b2, hCt.1]
      have eM : s_M_carry_c40 (nI t) (nI c) R E2 = some (nI (C t), upd R (43 + 5 * t) (nI c), E2) := by
        unfold s_M_carry_c40 s_M_carry_c45
        rw [if_neg (by decide), show ((41 : Int32) + ((5 : Int32) * nI t)) + (2 : Int32) = nI (43 + 5 * t) from by rw [p_lit 41, p_lit 5, pk_mul, nI_add, p_lit 2, nI_add]; congr 1; omega, p_becomes (by omega), p_b2, hCt.2.2]
      have done : (c = C t ∨ (bL walls c = false ∧ ∀ u, u < n → u ≠ t → C u ≠ c)) → RTh kind m (upd cell t (nI c)) broken fell count ((taken &&& ((j_lshl (1 : Int64) (nI (C t))) ^^^ (-1 : Int64))) ||| (j_lshl (1 : Int64) (nI c))) walls (upd R (43 + 5 * t) (nI c)) := by
        intro hq
        refine ⟨n, K, M, _, ThR_move h ht hc hq ?_, fun u hu2 => by rw [pk_un (by omega)]; exact hb u hu2, fun u hu2 => by rw [pk_un (by omega)]; exact hf u hu2, hu⟩
        intro d hd
        rw [bL_or, bL_and, bL_not _ (by omega), bL_one _ (by omega) _ (by omega), bL_one _ (by omega) _ (by omega)]
        by_cases q : d = C t
        · simp [q]
        · simp [q]
      have hX : s_X_carry (nI t) (nI c) cell count taken walls E = (if (if bL walls c = true then (1 : Int32) else 0) = 1 then s_X_carry_c60 cell taken E else (if fd (fun t => decide (cell t = nI c)) n 0 < 0 then s_X_carry_c66 (nI t) (nI c) cell (nI n) taken E else (if fd (fun t => decide (cell t = nI c)) n 0 = nI t then s_X_carry_c66 (nI t) (nI c) cell (nI n) taken E else s_X_carry_c60 cell taken E))) := by
        unfold s_X_carry
        rw [h1, p_has ht hn, p_b1, if_neg (by decide), (p_cI hc).1, p_b1, if_neg (by decide), p_tin _ _ hn, p_b1, p_wallAt (by omega), p_b1]
      have hM : s_M_carry (nI t) (nI c) R E2 = (if nI (C t) = nI c then s_M_carry_c40 (nI t) (nI c) R E2 else j_b1 (s_M_isFree (nI c) R) (fun r10 => if r10 = 0 then s_M_carry_c45 (nI t) (nI c) R E2 (0 : Int32) else s_M_carry_c40 (nI t) (nI c) R E2)) := by
        unfold s_M_carry
        rw [p_thI hn h2 ht, p_b1, if_neg (by decide), (p_cI hc).2, p_b1, if_neg (by decide), show (2 : Int32) = nI 2 from rfl, p_of (by omega) (by omega), p_b1, show 41 + 5 * t + 2 = 43 + 5 * t by omega, hCt.2.2]
      have errX : s_X_carry_c60 cell taken E = some (eL 3, cell, taken, E3) := by
        unfold s_X_carry_c60
        rw [show (3 : Int32) = nI 3 from rfl, y1, p_b2]
      have errM : s_M_carry_c45 (nI t) (nI c) R E2 (0 : Int32) = some (eL 3, R, F3) := by
        unfold s_M_carry_c45
        rw [if_pos rfl, show (-1000000003 : Int32) = eL 3 from by decide, y2, p_b2]
      rw [hX, hM]
      by_cases q : C t = c
      · have hfw : bL walls c = false := by rw [← q]; exact h7 t ht
        have hfd : fd (fun t => decide (cell t = nI c)) n 0 = nI t := by
          rcases p_fdC h hc with ⟨-, f2⟩ | ⟨u, f1, f2, f3⟩
          · exact absurd q (f2 t ht)
          · rw [f3, h6 u t f1 ht (f2.trans q.symm)]
        rw [hfw, if_neg (by decide), hfd, if_neg (p_nlt0 (by omega)), if_pos rfl, if_pos (by rw [q])]
        exact ⟨_, _, _, _, _, _, eX, eM, done (Or.inl q.symm), hE, frT_upd (by omega)⟩
      · have hne : ¬ nI (C t) = nI c := by rw [nI_eq (by omega) (by omega)]; exact q
        rw [if_neg hne]
        have e := p_freeM (n := n) (t := t) (c := C t) (d := c) (C := C) (walls := walls) (R := R) hn h2 (fun u hu2 => (h5 u hu2).2) h9 hc hCt.2.1 (fun z => q z.symm)
        rw [p_updself hCt.2.2] at e
        rw [e, p_b1]
        by_cases w : bL walls c = true
        · have hfr : ¬ frb walls C n t c = true := fun z => by rw [frb_iff hn] at z; rw [w] at z; cases z.1
          rw [if_pos w, if_pos rfl, if_neg hfr, if_pos rfl]
          exact ⟨_, _, _, _, _, _, errX, errM, hT, y3, frT_rf⟩
        · rw [if_neg w, if_neg (by decide)]
          rcases p_fdC h hc with ⟨f1, f2⟩ | ⟨u, f1, f2, f3⟩
          · have hfr : frb walls C n t c = true := (frb_iff hn).mpr ⟨by simpa using w, fun u hu2 _ => f2 u hu2⟩
            rw [f1, if_pos (by decide), if_pos hfr, if_neg (by decide)]
            exact ⟨_, _, _, _, _, _, eX, eM, done (Or.inr ⟨by simpa using w, fun u hu2 _ => f2 u hu2⟩), hE, frT_upd (by omega)⟩
          · have hut : u ≠ t := fun z => q (by rw [← z, f2])
            have hfr : ¬ frb walls C n t c = true := fun z => by rw [frb_iff hn] at z; exact z.2 u f1 hut f2
            rw [f3, if_neg (p_nlt0 (by omega)), if_neg (by rw [nI_eq (by omega) (by omega)]; exact hut), if_neg hfr, if_pos rfl]
            exact ⟨_, _, _, _, _, _, errX, errM, hT, y3, frT_rf⟩
