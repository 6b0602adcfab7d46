/-! pure 29: sheet, put, move, judge -/
theorem p_layX {s : Nat} {bits len : Nat → Int32} (hs : s < 4) : ∀ (fuel q i : Nat) (num : Nat → Int32), i + q = 24 → q < fuel → ∃ num', s_Sheets_lay_c34 (nI s) bits len fuel (nI i) num = some (bits, len, num') ∧ (∀ j, (j < 24 * s ∨ 24 * s + 24 ≤ j) → num' j = num j) ∧ ∀ k, i ≤ k → k < 24 → num' (24 * s + k) = 0 := by
  intro fuel
  induction fuel with
  | zero => intro q i num _ h; exact absurd h (Nat.not_lt_zero _)
  | succ fuel ih =>
    intro q i num hq hf
    rw [s_Sheets_lay_c34]
    cases q with
    | zero =>
      rw [if_pos (show (24 : Int32) ≤ nI i from nI_le (a := 24) (by omega) (by omega))]
      exact ⟨num, rfl, fun _ _ => rfl, fun k h1 h2 => absurd h1 (by omega)⟩
    | succ q =>
      rw [if_neg (show ¬ (24 : Int32) ≤ nI i from nI_ge (b := 24) (by omega) (by omega)), (p_ixS s i).1, p_chk (by omega) (by omega), nI_clamp (by omega), nI_1]
      have keep : ∀ (fuel q i' : Nat) (num : Nat → Int32), i' + q = 24 → q < fuel → ∀ num', s_Sheets_lay_c34 (nI s) bits len fuel (nI i') num = some (bits, len, num') → ∀ k, k < i' → num' (24 * s + k) = num (24 * s + k) := by
        intro fuel
        induction fuel with
        | zero => intro q i' num _ h; exact absurd h (Nat.not_lt_zero _)
        | succ fuel ih =>
          intro q i' num hq hf num' e k hk
          rw [s_Sheets_lay_c34] at e
          cases q with
          | zero =>
            rw [if_pos (show (24 : Int32) ≤ nI i' from nI_le (a := 24) (by omega) (by omega))] at e
            cases e; rfl
          | succ q =>
            rw [if_neg (show ¬ (24 : Int32) ≤ nI i' from nI_ge (b := 24) (by omega) (by omega)), (p_ixS s i').1, p_chk (by omega) (by omega), nI_clamp (by omega), nI_1] at e
            rw [ih q (i' + 1) _ (by omega) (by omega) num' e k (by omega), pk_un (by omega)]
      obtain ⟨num', e1, e2, e3⟩ := ih q (i + 1) (upd num (24 * s + i) 0) (by omega) (by omega)
      refine ⟨num', e1, fun j hj => by rw [e2 j hj, pk_un (by omega)], fun k h1 h2 => ?_⟩
      rcases Nat.eq_or_lt_of_le h1 with e | e
      · rw [← e, keep fuel q (i + 1) _ (by omega) (by omega) num' e1 i (by omega), pk_us]
      · exact e3 k e h2
theorem p_layM {s : Nat} {E2 bits len : Nat → Int32} (hs : s < 4) : ∀ (fuel q i : Nat) (num : Nat → Int32), i + q = 24 → q < fuel → ∃ num', s_M_sheet_c93 (nI s) E2 bits len fuel (nI i) num = some (1, E2, bits, len, num') ∧ (∀ j, (j < 24 * s ∨ 24 * s + 24 ≤ j) → num' j = num j) ∧ (∀ k, k < i → num' (24 * s + k) = num (24 * s + k)) ∧ ∀ k, i ≤ k → k < 24 → num' (24 * s + k) = 0 := by
  intro fuel
  induction fuel with
  | zero => intro q i num _ h; exact absurd h (Nat.not_lt_zero _)
  | succ fuel ih =>
    intro q i num hq hf
    rw [s_M_sheet_c93]
    cases q with
    | zero =>
      rw [if_pos (show (24 : Int32) ≤ nI i from nI_le (a := 24) (by omega) (by omega))]
      exact ⟨num, rfl, fun _ _ => rfl, fun _ _ => rfl, fun k h1 h2 => absurd h1 (by omega)⟩
    | succ q =>
      rw [if_neg (show ¬ (24 : Int32) ≤ nI i from nI_ge (b := 24) (by omega) (by omega)), (p_ixS s i).2, p_chk (by omega) (by omega), nI_clamp (by omega), nI_1]
      obtain ⟨num', e1, e2, e4, e3⟩ := ih q (i + 1) (upd num (24 * s + i) 0) (by omega) (by omega)
      refine ⟨num', e1, fun j hj => by rw [e2 j hj, pk_un (by omega)], fun k hk => by rw [e4 k (by omega), pk_un (by omega)], fun k h1 h2 => ?_⟩
      rcases Nat.eq_or_lt_of_le h1 with e | e
      · rw [← e, e4 i (by omega), pk_us]
      · exact e3 k e h2
/-- sheet s is laid anew -/
theorem RSh_lay {bits ln num bM sM cM num' cM' : Nat → Int32} (hS : RSh bits ln num bM sM cM) {s n : Nat} {w : Int32} (h24 : n ≤ 24) (hw : w = 0 → n = 0) (h1 : ∀ j, (j < 24 * s ∨ 24 * s + 24 ≤ j) → num' j = num j) (h2 : ∀ j, (j < 24 * s ∨ 24 * s + 24 ≤ j) → cM' j = cM j) (h3 : ∀ k, k < n → num' (24 * s + k) = cM' (24 * s + k)) : RSh (upd bits s w) (upd ln s (nI n)) num' (upd bM s w) (upd sM s (nI n)) cM' := by
  obtain ⟨L, hS⟩ := hS
  refine ⟨fun t => if t = s then n else L t, fun t ht => ?_⟩
  obtain ⟨s1, s2, s3, s4, s5, s6⟩ := hS t ht
  by_cases q : t = s
  · subst q
    dsimp only
    rw [pk_us, pk_us, pk_us, pk_us, if_pos rfl]
    exact ⟨rfl, h24, rfl, rfl, hw, h3⟩
  · dsimp only
    rw [pk_un q, pk_un q, pk_un q, pk_un q, if_neg q]
    refine ⟨s1, s2, s3, s4, s5, fun k hk => ?_⟩
    rw [h1 _ (by omega), h2 _ (by omega)]
    exact s6 k hk
theorem q_sheet {bits ln num bM sM cM E E2 : Nat → Int32} (hS : RSh bits ln num bM sM cM) (hE : ErR E E2) (a w n : Int32) :
    ∃ r bits' ln' num' E' E2' bM' sM' cM', s_X_sheet a w n bits ln num E = some (r, bits', ln', num', E') ∧ s_M_sheet a w n E2 bM sM cM = some (r, E2', bM', sM', cM') ∧ ErR E' E2' ∧ RSh bits' ln' num' bM' sM' cM' := by
  obtain ⟨E1, F1, x1, x2, x3⟩ := p_err hE (k := 1) (by omega)
  obtain ⟨E3, F3, y1, y2, y3⟩ := p_err hE (k := 3) (by omega)
  have oX : s_X_sheet_c18 bits ln num E = some (eL 1, bits, ln, num, E1) := by
    unfold s_X_sheet_c18
    rw [show (1 : Int32) = nI 1 from rfl, x1, p_b2]
  have oM : s_M_sheet_c29 E2 bM sM cM = some (eL 1, F1, bM, sM, cM) := by
    unfold s_M_sheet_c29
    rw [show (-1000000001 : Int32) = eL 1 from by decide, x2, p_b2]
  unfold s_X_sheet s_M_sheet
  rcases p_ix a 4 (by omega) with ho | ⟨s, hs, rfl⟩
  · refine ⟨eL 1, bits, ln, num, E1, F1, bM, sM, cM, ?_, ?_, x3, hS⟩
    · rw [(p_shO ho).1, p_b1, if_pos rfl, oX]
    · rw [(p_shO ho).2, p_b1, if_pos rfl, oM]
  · rw [(p_shI hs).1, p_b1, if_neg (show ¬ (1 : Int32) = 0 by decide), (p_shI hs).2, p_b1, if_neg (show ¬ (1 : Int32) = 0 by decide)]
    have lay : ∀ w : Int32, ¬ w = 0 → ¬ w ≤ 0 → ∃ r bits' ln' num' E' E2' bM' sM' cM', s_X_sheet_c24 (nI s) w n bits ln num E = some (r, bits', ln', num', E') ∧ s_M_sheet_c36 (nI s) w n E2 bM sM cM = some (r, E2', bM', sM', cM') ∧ ErR E' E2' ∧ RSh bits' ln' num' bM' sM' cM' := by
      intro w hw0 hw1
      unfold s_X_sheet_c24 s_M_sheet_c36 s_M_sheet_c51 s_M_sheet_c68 s_M_sheet_c89
      rw [if_neg hw0, if_neg hw1, if_neg hw1]
      by_cases c : 0 ≤ n
      · rw [if_pos c, if_pos c]
        rcases p_ix n 25 (by omega) with ho | ⟨l, hl, rfl⟩
        · have : ¬ n ≤ (24 : Int32) := by
            rcases ho with ho | ho
            · rw [Int32.le_iff_toInt_le] at c
              rw [Int32.lt_iff_toInt_lt] at ho
              omega
            · rw [Int32.le_iff_toInt_le, p_ti 25 (by omega)] at ho
              rw [Int32.le_iff_toInt_le, show (24 : Int32).toInt = 24 from by decide]
              omega
          rw [if_neg this, if_neg this, show (1 : Int32) = nI 1 from rfl, x1, p_b2, show (-1000000001 : Int32) = eL 1 from by decide, x2, p_b2]
          exact ⟨_, _, _, _, _, _, _, _, _, rfl, rfl, x3, hS⟩
        · have h24 : nI l ≤ (24 : Int32) := nI_le (b := 24) (by omega) (by omega)
          unfold s_Sheets_lay
          rw [if_pos h24, if_pos h24, (p_shI hs).1, p_b1, if_neg (show ¬ (1 : Int32) = 0 by decide), if_neg (p_nlt0 (by omega)), if_neg (show ¬ (24 : Int32) < nI l from nI_nlt (a := 24) (by omega) (by omega)), p_chk hs (by omega), p_chk hs (by omega), p_chk hs (by omega), if_neg hw0, p_chk hs (by omega), nI_clamp (by omega)]
          obtain ⟨num', a1, a2, a3⟩ := p_layX (bits := upd bits s w) (len := upd ln s (nI l)) hs 400 24 0 num (by omega) (by omega)
          obtain ⟨cM', b1, b2, -, b3⟩ := p_layM (E2 := E2) (bits := upd bM s w) (len := upd sM s (nI l)) hs 400 24 0 cM (by omega) (by omega)
          rw [show s_Sheets_lay_c34 (nI s) (upd bits s w) (upd ln s (nI l)) 400 (0 : Int32) num = _ from a1, p_b3]
          refine ⟨1, _, _, num', E, E2, _, _, cM', rfl, b1, hE, RSh_lay hS (by omega) (fun z => absurd z hw0) a2 b2 (fun k hk => ?_)⟩
          rw [a3 k (by omega) (by omega), b3 k (by omega) (by omega)]
      · rw [if_neg c, if_neg c, show (3 : Int32) = nI 3 from rfl, y1, p_b2, show (-1000000003 : Int32) = eL 3 from by decide, y2, p_b2]
        exact ⟨_, _, _, _, _, _, _, _, _, rfl, rfl, y3, hS⟩
    unfold s_Sheets_isWidth
    by_cases c0 : w = 0
    · subst c0
      rw [if_pos rfl, if_pos rfl]
      unfold s_X_sheet_c24 s_M_sheet_c36 s_M_sheet_c51 s_M_sheet_c68 s_M_sheet_c89 s_Sheets_take
      rw [if_pos rfl, (p_shI hs).1, p_b1, if_neg (show ¬ (1 : Int32) = 0 by decide), p_chk hs (by omega), p_chk hs (by omega), p_b2, if_pos (show (0 : Int32) ≤ 0 by decide), if_pos (show (0 : Int32) ≤ 0 by decide), p_chk hs (by omega), if_pos rfl, p_chk hs (by omega), nI_clamp (by omega)]
      obtain ⟨cM', b1, b2, -, b3⟩ := p_layM (E2 := E2) (bits := upd bM s 0) (len := upd sM s 0) hs 400 24 0 cM (by omega) (by omega)
      exact ⟨1, _, _, num, E, E2, _, _, cM', rfl, b1, hE, RSh_lay (n := 0) hS (by omega) (fun _ => rfl) (fun _ _ => rfl) b2 (fun k hk => absurd hk (Nat.not_lt_zero _))⟩
    · rw [if_neg c0, if_neg c0]
      by_cases c1 : w = 8
      · rw [if_pos c1, if_pos c1, p_b1, if_neg (show ¬ (1 : Int32) = 0 by decide)]
        exact lay w c0 (by rw [c1]; decide)
      · rw [if_neg c1, if_neg c1]
        by_cases c2 : w = 16
        · rw [if_pos c2, if_pos c2, p_b1, if_neg (show ¬ (1 : Int32) = 0 by decide)]
          exact lay w c0 (by rw [c2]; decide)
        · rw [if_neg c2, if_neg c2]
          by_cases c3 : w = 32
          · rw [if_pos c3, if_pos c3, p_b1, if_neg (show ¬ (1 : Int32) = 0 by decide)]
            exact lay w c0 (by rw [c3]; decide)
          · rw [if_neg c3, if_neg c3, p_b1, if_pos rfl, oX, oM]
            exact ⟨_, _, _, _, _, _, _, _, _, rfl, rfl, x3, hS⟩
theorem q_put {bits ln num bM sM cM E E2 : Nat → Int32} (hS : RSh bits ln num bM sM cM) (hE : ErR E E2) (a b x : Int32) :
    ∃ r num' E' E2' cM', s_X_put a b x bits ln num E = some (r, num', E') ∧ s_M_put a b x E2 bM sM cM = some (r, E2', cM') ∧ ErR E' E2' ∧ RSh bits ln num' bM sM cM' := by
  obtain ⟨E1, F1, x1, x2, x3⟩ := p_err hE (k := 1) (by omega)
  obtain ⟨E3, F3, y1, y2, y3⟩ := p_err hE (k := 2) (by omega)
  obtain ⟨L, hS⟩ := id hS
  unfold s_X_put s_M_put
  rcases p_ix a 4 (by omega) with ho | ⟨s, hs, rfl⟩
  · refine ⟨eL 1, num, E1, F1, cM, ?_, ?_, x3, ⟨L, hS⟩⟩
    · rw [(p_shO ho).1, p_b1, if_pos rfl, show (1 : Int32) = nI 1 from rfl, x1, p_b2]
    · unfold s_M_put_c33 s_M_put_c35
      rw [p_nthO ho, p_b1, if_neg (eL_ne 1 (by omega)), if_neg (eL_ne 1 (by omega)), x2, p_b2]
  · obtain ⟨s1, s2, s3, s4, s5, s6⟩ := hS s hs
    rw [(p_shI hs).1, p_b1, if_neg (show ¬ (1 : Int32) = 0 by decide), p_miss hs, p_b1, p_nthI hs, p_b1, ← s1]
    unfold s_M_put_c33 s_M_put_c35
    by_cases hb : bits s = 0
    · refine ⟨eL 2, num, E3, F3, cM, ?_, ?_, y3, ⟨L, hS⟩⟩
      · rw [if_pos hb, if_neg (show ¬ (1 : Int32) = 0 by decide), show (2 : Int32) = nI 2 from rfl, y1, p_b2]
      · rw [if_pos hb, if_neg (eL_ne 2 (by omega)), if_neg (eL_ne 2 (by omega)), y2, p_b2]
    · rw [if_neg hb, if_neg hb, if_pos rfl, if_pos rfl, p_chk hs (by omega), p_chk hs (by omega), nI_clamp (by omega), s3, s4]
      rcases p_ix b (L s) (by omega) with ho | ⟨i, hi, rfl⟩
      · refine ⟨eL 1, num, E1, F1, cM, ?_, ?_, x3, ⟨L, hS⟩⟩
        · have oX : s_X_put_c47 num E = some (eL 1, num, E1) := by
            unfold s_X_put_c47
            rw [show (1 : Int32) = nI 1 from rfl, x1, p_b2]
          rcases ho with ho | ho
          · rw [if_pos ho, oX]
          · have : ¬ b < nI (L s) := by
              rw [Int32.lt_iff_toInt_lt]
              rw [Int32.le_iff_toInt_le] at ho
              omega
            rw [if_neg this, oX, ite_self]
        · rw [p_inS (by omega) ho, p_b1, if_pos rfl, show (-1000000001 : Int32) = eL 1 from by decide, if_neg (eL_ne 1 (by omega)), x2, p_b2]
      · have fin : ∀ z : Int32, RSh bits ln (upd num (24 * s + i) z) bM sM (upd cM (24 * s + i) z) := by
          intro z
          refine ⟨L, fun t ht => ?_⟩
          obtain ⟨t1, t2, t3, t4, t5, t6⟩ := hS t ht
          refine ⟨t1, t2, t3, t4, t5, fun k hk => ?_⟩
          by_cases q : 24 * t + k = 24 * s + i
          · rw [q, pk_us, pk_us]
          · rw [pk_un q, pk_un q]; exact t6 k hk
        unfold s_Sheets_write s_Sheets_lowest
        rw [if_neg (p_nlt0 (by omega)), if_pos (nI_lt hi (by omega)), p_hasN hs s3 s2 hi, p_b1, if_neg (show ¬ (1 : Int32) = 0 by decide), p_chk hs (by omega), nI_clamp (by omega), p_inSI (by omega) hi, p_b1, if_neg (show ¬ (1 : Int32) = 0 by decide), if_pos rfl, p_chk hs (by omega), (p_ixS s i).1, (p_ixS s i).2, ← s1]
        by_cases c1 : bits s = 8
        · rw [if_pos c1, if_pos c1, p_b1, p_chk (by omega) (by omega), p_b1, p_chk (by omega) (by omega), nI_clamp (by omega)]
          exact ⟨_, _, _, _, _, rfl, rfl, hE, fin _⟩
        · rw [if_neg c1, if_neg c1, p_chk hs (by omega)]
          by_cases c2 : bits s = 16
          · rw [if_pos c2, if_pos c2, p_b1, p_chk (by omega) (by omega), p_b1, p_chk (by omega) (by omega), nI_clamp (by omega)]
            exact ⟨_, _, _, _, _, rfl, rfl, hE, fin _⟩
          · rw [if_neg c2, if_neg c2, p_b1, p_chk (by omega) (by omega), p_b1, p_chk (by omega) (by omega), nI_clamp (by omega)]
            exact ⟨_, _, _, _, _, rfl, rfl, hE, fin _⟩
theorem q_judge {kind m cell broken fell : Nat → Int32} {count hour : Int32} {taken walls : Int64} {psteps pstack bits ln num bM sM cM : Nat → Int32} {pcnt : Int32} {R E E2 : Nat → Int32} (hT : RTh kind m cell broken fell count taken walls R) (hh : RHr hour R) (hc : RCd psteps pcnt 155 R) (hS : RSh bits ln num bM sM cM) (hE : ErR E E2) (a : Int32) (F f : Nat → Int32) :
    ∃ r st' E' E2' F' f', s_X_judge a count hour psteps pstack pcnt bits ln num E = some (r, st', E') ∧ s_M_judge a R E2 F f bM sM cM = some (r, E2', F', f') ∧ ErR E' E2' := by
  obtain ⟨n, K, M, C, h, -, -, -⟩ := hT
  obtain ⟨hn, h1, h2, -⟩ := h
  obtain ⟨hr, hr1, rfl, hr2⟩ := hh
  obtain ⟨len, o, v, d, hc⟩ := hc
  obtain ⟨L, hS⟩ := hS
  obtain ⟨E1, F1, x1, x2, x3⟩ := p_err hE (k := 1) (by omega)
  obtain ⟨E3, F3, y1, y2, y3⟩ := p_err hE (k := 2) (by omega)
  unfold s_X_judge s_M_judge
  rcases p_ix a 4 (by omega) with ho | ⟨s, hs, rfl⟩
  · refine ⟨eL 1, pstack, E1, F1, F, f, ?_, ?_, x3⟩
    · rw [(p_shO ho).1, p_b1, if_pos rfl, show (1 : Int32) = nI 1 from rfl, x1, p_b2]
    · rw [p_nthO ho, p_b1, if_neg (eL_ne 1 (by omega)), x2, p_b2]
  · obtain ⟨s1, s2, s3, s4, s5, s6⟩ := hS s hs
    rw [(p_shI hs).1, p_b1, if_neg (show ¬ (1 : Int32) = 0 by decide), p_miss hs, p_b1, p_nthI hs, p_b1, ← s1]
    by_cases hb : bits s = 0
    · refine ⟨eL 2, pstack, E3, F3, F, f, ?_, ?_, y3⟩
      · rw [if_pos hb, if_neg (show ¬ (1 : Int32) = 0 by decide), show (2 : Int32) = nI 2 from rfl, y1, p_b2]
      · rw [if_pos hb, if_neg (eL_ne 2 (by omega)), y2, p_b2]
    · rw [if_neg hb, if_neg hb, if_pos rfl, if_pos rfl, p_chk hs (by omega), nI_clamp (by omega), s3]
      have key : ∀ (fuel fuel' q i : Nat) (st F f : Nat → Int32), i + q = L s → q < fuel → q < fuel' → ∃ r st' F' f', s_X_judge_c42 (nI s) (nI (L s)) count (nI hr) psteps pcnt ln num E fuel (nI i) st = some (r, st', E) ∧ s_M_judge_c18 (nI s) R E2 sM cM fuel' (nI i) F f = some (r, E2, F', f') := by
        intro fuel
        induction fuel with
        | zero => intro fuel' q i st F f _ h; exact absurd h (Nat.not_lt_zero _)
        | succ fuel ih =>
          intro fuel' q i st F f hq hf hf'
          cases fuel' with
          | zero => exact absurd hf' (Nat.not_lt_zero _)
          | succ fuel' =>
          rw [s_X_judge_c42, s_M_judge_c18, p_chk hs (by omega), nI_clamp (by omega), s4]
          cases q with
          | zero =>
            rw [if_pos (nI_le (by omega) (by omega)), if_pos (nI_le (by omega) (by omega)), show i = L s by omega]
            exact ⟨_, _, _, _, rfl, rfl⟩
          | succ q =>
            obtain ⟨st1, z1⟩ := r_pullAt hc (nI hr + nI i) (nI n) st
            obtain ⟨G, g, z2⟩ := r_pullOf hc (nI hr + nI i) F f
            rw [h2] at z2
            rw [if_neg (nI_ge (by omega) (by omega)), if_neg (nI_ge (by omega) (by omega)), (p_ixS s i).2, p_chk (by omega) (by omega), nI_clamp (by omega), p_numAt hs s3 s2 (by omega), p_b1, h1, z1, p_b2, show (0 : Int32).toNatClampNeg = 0 from rfl, hr2, z2, p_b3, s6 i (by omega), nI_1]
            by_cases e : cM (24 * s + i) = nI (plv len o v d (nI hr + nI i) ((nI hr + nI i) / 12) (nI n))
            · rw [if_pos e, if_pos e]
              obtain ⟨r, st', F', f', g1, g2⟩ := ih fuel' q (i + 1) st1 G g (by omega) (by omega) (by omega)
              rw [h1] at g1
              exact ⟨r, st', F', f', g1, g2⟩
            · rw [if_neg e, if_neg e]
              exact ⟨_, _, _, _, rfl, rfl⟩
      obtain ⟨r, st', F', f', g1, g2⟩ := key 400 400 (L s) 0 pstack F f (by omega) (by omega) (by omega)
      exact ⟨r, st', E, E2, F', f', g1, g2, hE⟩
