/-! pure 12: the hour, the seed, the tape, what waits, the laws: what both keep; and the small entries -/
def RHr (hour : Int32) (R : Nat → Int32) : Prop := ∃ h, h ≤ 9999 ∧ hour = nI h ∧ R 0 = nI h
def RTp (tape : Nat → Int32) (len : Int32) (R : Nat → Int32) : Prop := ∃ l, l ≤ 60 ∧ len = nI l ∧ R 3 = nI l ∧ ∀ i, i < l → ∃ b, b < 256 ∧ tape i &&& 255 = nI b ∧ R (71 + i) = nI b
def RWt (waiting : Nat → Int32) (waits : Int32) (R : Nat → Int32) : Prop := ∃ w, w ≤ 24 ∧ waits = nI w ∧ R 4 = nI w ∧ ∀ i, i < w → waiting i = R (131 + i)
def RCd (steps : Nat → Int32) (cnt : Int32) (base : Nat) (R : Nat → Int32) : Prop := ∃ len o v d, CdR len o v d steps cnt base R
theorem p_rg (a : Int32) (lo N : Nat) (hl : lo ≤ N) (hN : N < 2 ^ 30) : (s_M_in a (nI lo) (nI N) = some 0 ∧ ∀ {β : Type} (e t : β), (if a < nI lo then e else if a ≤ nI N then t else e) = e) ∨ ∃ j, lo ≤ j ∧ j ≤ N ∧ a = nI j ∧ s_M_in a (nI lo) (nI N) = some 1 ∧ ∀ {β : Type} (e t : β), (if a < nI lo then e else if a ≤ nI N then t else e) = t := by
  unfold s_M_in
  by_cases c1 : a < nI lo
  · exact Or.inl ⟨by rw [if_pos c1], fun e t => by rw [if_pos c1]⟩
  · by_cases c2 : a ≤ nI N
    · right
      rcases p_ix a (N + 1) (by omega) with ho | ⟨j, hj, rfl⟩
      · exfalso
        rcases ho with ho | ho
        · rw [Int32.lt_iff_toInt_lt, p_ti lo (by omega)] at c1
          rw [Int32.lt_iff_toInt_lt, show (0 : Int32).toInt = 0 from by decide] at ho
          omega
        · rw [Int32.le_iff_toInt_le, p_ti N (by omega)] at c2
          rw [Int32.le_iff_toInt_le, p_ti (N + 1) (by omega)] at ho
          omega
      · have hlo : lo ≤ j := by
          rw [Int32.lt_iff_toInt_lt, p_ti lo (by omega), p_ti j (by omega)] at c1
          omega
        exact ⟨j, hlo, by omega, rfl, by rw [if_neg c1, if_neg (nI_nlt (by omega) (by omega))], fun e t => by rw [if_neg c1, if_pos c2]⟩
    · refine Or.inl ⟨?_, fun e t => by rw [if_neg c1, if_neg c2]⟩
      rw [if_neg c1, if_pos]
      rw [Int32.le_iff_toInt_le] at c2
      rw [Int32.lt_iff_toInt_lt]
      omega
theorem q_clock {hour : Int32} {R E E2 : Nat → Int32} (hh : RHr hour R) (hE : ErR E E2) (a : Int32) :
    ∃ r hour' E' R' E2', s_X_clock a hour E = some (r, hour', E') ∧ s_M_clock a R E2 = some (r, R', E2') ∧ RHr hour' R' ∧ ErR E' E2' ∧ (∀ k, k ≠ 0 → R' k = R k) := by
  obtain ⟨E1, F1, x1, x2, x3⟩ := p_err hE (k := 1) (by omega)
  rcases p_rg a 0 9999 (by omega) (by omega) with ⟨hM, hX⟩ | ⟨j, -, hj, rfl, hM, hX⟩
  · refine ⟨eL 1, hour, E1, R, F1, ?_, ?_, hh, x3, fun _ _ => rfl⟩
    · unfold s_X_clock
      refine (hX _ _).trans ?_
      unfold s_X_clock_c11
      rw [show (1 : Int32) = nI 1 from rfl, x1, p_b2]
    · unfold s_M_clock
      rw [show s_M_in a (0 : Int32) (9999 : Int32) = some 0 from hM, p_b1, if_pos rfl, show (-1000000001 : Int32) = eL 1 from by decide, x2, p_b2]
  · obtain ⟨h, hh1, rfl, hh2⟩ := hh
    refine ⟨nI h, nI j, E, upd R 0 (nI j), E2, ?_, ?_, ⟨j, hj, rfl, pk_us⟩, hE, fun k hk => pk_un hk⟩
    · unfold s_X_clock
      exact hX _ _
    · unfold s_M_clock
      rw [show s_M_in (nI j) (0 : Int32) (9999 : Int32) = some 1 from hM, p_b1, if_neg (show ¬ (1 : Int32) = 0 by decide), show (0 : Int32) = nI 0 from rfl, p_becomes (by omega), p_b2, hh2]
theorem q_seed {z : Int32} {R : Nat → Int32} (hz : z = R 1) (a : Int32) :
    ∃ r z' R', s_X_seed a z = some (r, z') ∧ s_M_seed a R = some (r, R') ∧ z' = R' 1 ∧ (∀ k, k ≠ 1 → R' k = R k) := by
  refine ⟨z, a, upd R 1 a, rfl, ?_, pk_us.symm, fun k hk => pk_un hk⟩
  unfold s_M_seed
  rw [show (1 : Int32) = nI 1 from rfl, p_becomes (by omega), p_b2, hz]
theorem q_told {E E2 : Nat → Int32} (hE : ErR E E2) (a : Int32) :
    ∃ r E' E2', s_X_told a E = some (r, E') ∧ s_M_told a E2 = some (r, E2') ∧ ErR E' E2' := by
  obtain ⟨E1, F1, x1, x2, x3⟩ := p_err hE (k := 1) (by omega)
  rcases p_rg a 1 6 (by omega) (by omega) with ⟨hM, hX⟩ | ⟨j, -, hj, rfl, hM, hX⟩
  · refine ⟨eL 1, E1, F1, ?_, ?_, x3⟩
    · unfold s_X_told
      refine (hX _ _).trans ?_
      unfold s_X_told_c11
      rw [show (1 : Int32) = nI 1 from rfl, x1, p_b2]
    · unfold s_M_told
      rw [show s_M_in a (1 : Int32) (6 : Int32) = some 0 from hM, p_b1, if_pos rfl, show (-1000000001 : Int32) = eL 1 from by decide, x2, p_b2]
  · refine ⟨E j, E, E2, ?_, ?_, hE⟩
    · unfold s_X_told
      refine (hX _ _).trans ?_
      rw [p_chk (by omega) (by omega), nI_clamp (by omega)]
    · unfold s_M_told
      rw [show s_M_in (nI j) (1 : Int32) (6 : Int32) = some 1 from hM, p_b1, if_neg (show ¬ (1 : Int32) = 0 by decide), p_chk (by omega) (by omega), nI_clamp (by omega), hE j (by omega)]
theorem q_tell {waiting : Nat → Int32} {waits : Int32} {R E E2 : Nat → Int32} (hw : RWt waiting waits R) (hE : ErR E E2) (a : Int32) :
    ∃ r waits' waiting' E' R' E2', s_X_tell a waits waiting E = some (r, waits', waiting', E') ∧ s_M_tell a R E2 = some (r, R', E2') ∧ RWt waiting' waits' R' ∧ ErR E' E2' ∧ (∀ k, k ≠ 4 → (k < 131 ∨ 155 ≤ k) → R' k = R k) := by
  obtain ⟨E1, F1, x1, x2, x3⟩ := p_err hE (k := 4) (by omega)
  obtain ⟨w, w1, rfl, w2, w3⟩ := id hw
  by_cases c : w = 24
  · refine ⟨eL 4, nI w, waiting, E1, R, F1, ?_, ?_, hw, x3, fun _ _ _ => rfl⟩
    · unfold s_X_tell
      rw [if_neg (show ¬ nI w < (24 : Int32) from nI_nlt (b := 24) (by omega) (by omega)), show (4 : Int32) = nI 4 from rfl, x1, p_b2]
    · unfold s_M_tell
      rw [show (4 : Int32).toNatClampNeg = 4 from rfl, w2, c, if_pos (show nI 24 = (24 : Int32) from rfl), show (-1000000004 : Int32) = eL 4 from by decide, x2, p_b2]
  · refine ⟨nI (w + 1), nI (w + 1), upd waiting w a, E, upd (upd R (131 + w) a) 4 (nI (w + 1)), E2, ?_, ?_, ⟨w + 1, by omega, rfl, pk_us, fun i hi => ?_⟩, hE, fun k k1 k2 => by rw [pk_un k1, pk_un (by omega)]⟩
    · unfold s_X_tell s_House_addWaiting
      rw [if_pos (show nI w < (24 : Int32) from nI_lt (b := 24) (by omega) (by omega)), if_neg (show ¬ (24 : Int32) ≤ nI w from nI_ge (b := 24) (by omega) (by omega)), p_chk (by omega) (by omega), nI_clamp (by omega), show nI w + (1 : Int32) = nI (w + 1) from nI_add w 1, p_b2]
    · unfold s_M_tell
      rw [show (4 : Int32).toNatClampNeg = 4 from rfl, w2, if_neg (show ¬ nI w = (24 : Int32) from fun e => c ((nI_eq (b := 24) (by omega) (by omega)).mp e)), show (131 : Int32) + nI w = nI (131 + w) from nI_add 131 w, p_chk (by omega) (by omega), nI_clamp (by omega), pk_us, pk_un (by omega), w2, show nI w + (1 : Int32) = nI (w + 1) from nI_add w 1]
    · rw [show upd (upd R (131 + w) a) 4 (nI (w + 1)) (131 + i) = upd R (131 + w) a (131 + i) from pk_un (by omega)]
      by_cases q : i = w
      · rw [q, pk_us, pk_us]
      · rw [pk_un q, pk_un (by omega)]
        exact w3 i (by omega)
theorem p_check {n w : Nat} {cell waiting R' : Nat → Int32} (hn : n ≤ 6) (h2 : R' 2 = nI n) (hc : ∀ u, u < n → cell u = R' (43 + 5 * u)) (hw : w ≤ 24) (h3 : ∀ i, i < w → waiting i = R' (131 + i)) :
    ∀ fuel fuel' q i, i + q = w → q < fuel → q < fuel' → ∃ r, s_House_firstWaitingWrong_c2 cell (nI n) (nI w) waiting fuel (nI i) = some r ∧ s_M_check_c16 (nI w) R' fuel' (nI i) = some (if 0 ≤ r then (1 : Int32) + r else 0, R') := by
  intro fuel
  induction fuel with
  | zero => intro fuel' q i _ h; exact absurd h (Nat.not_lt_zero _)
  | succ fuel ih =>
    intro fuel' q i hiq hq hq'
    cases fuel' with
    | zero => exact absurd hq' (Nat.not_lt_zero _)
    | succ fuel' =>
    rw [s_House_firstWaitingWrong_c2, s_M_check_c16]
    cases q with
    | zero =>
      rw [if_pos (nI_le (by omega) (by omega)), if_pos (nI_le (by omega) (by omega))]
      exact ⟨-1, rfl, by rw [if_neg (by decide)]⟩
    | succ q =>
      rw [if_neg (nI_ge (by omega) (by omega)), if_neg (nI_ge (by omega) (by omega)), if_neg (show ¬ (24 : Int32) ≤ nI i from nI_ge (b := 24) (by omega) (by omega))]
      have hi0 : (0 : Int32) ≤ nI i := nI_le (a := 0) (by omega) (by omega)
      by_cases c : i < n
      · rw [p_has c hn, p_b1, if_neg (show ¬ (1 : Int32) = 0 by decide), p_chk (by omega) (by omega), p_chk (by omega) (by omega), nI_clamp (by omega), p_thI hn h2 c, p_b1, if_neg (show ¬ (1 : Int32) = 0 by decide), show (131 : Int32) + nI i = nI (131 + i) from nI_add 131 i, p_chk (by omega) (by omega), show (2 : Int32) = nI 2 from rfl, p_of (by omega) (by omega), p_b1, nI_clamp (by omega), show 41 + 5 * i + 2 = 43 + 5 * i by omega, hc i c, h3 i (by omega)]
        by_cases e : R' (43 + 5 * i) = R' (131 + i)
        · rw [if_pos e, if_pos e.symm, show nI i + (1 : Int32) = nI (i + 1) from nI_add i 1]
          exact ih fuel' q (i + 1) (by omega) (by omega) (by omega)
        · rw [if_neg e, if_neg (fun x => e x.symm)]
          exact ⟨nI i, rfl, by unfold s_M_check_c48; rw [if_pos hi0]⟩
      · rw [p_hO (Or.inr (nI_le (by omega) (by omega))), p_b1, if_pos rfl, p_thO hn h2 (Or.inr (nI_le (by omega) (by omega))), p_b1, if_pos rfl]
        exact ⟨nI i, rfl, by unfold s_M_check_c48; rw [if_pos hi0]⟩
theorem q_check {kind m cell broken fell : Nat → Int32} {count : Int32} {taken walls : Int64} {waiting : Nat → Int32} {waits : Int32} {R : Nat → Int32} (hT : RTh kind m cell broken fell count taken walls R) (hw : RWt waiting waits R) :
    ∃ r waits' R', s_X_check cell count waits waiting = some (r, waits') ∧ s_M_check R = some (r, R') ∧ RWt waiting waits' R' ∧ (∀ k, k ≠ 4 → R' k = R k) := by
  obtain ⟨n, K, M, C, h, -, -, -⟩ := hT
  obtain ⟨hn, h1, h2, -, -, h5, -⟩ := h
  obtain ⟨w, w1, rfl, w2, w3⟩ := hw
  obtain ⟨r, r1, r2⟩ := p_check (R' := upd R 4 0) (cell := cell) (waiting := waiting) hn (by rw [pk_un (by omega)]; exact h2) (fun u hu => by rw [pk_un (by omega), (h5 u hu).1, (h5 u hu).2.2]) w1 (fun i hi => by rw [pk_un (by omega)]; exact w3 i hi) 400 400 w 0 (by omega) (by omega) (by omega)
  refine ⟨if 0 ≤ r then (1 : Int32) + r else 0, 0, upd R 4 0, ?_, ?_, ⟨0, by omega, rfl, pk_us, fun i hi => absurd hi (Nat.not_lt_zero _)⟩, fun k hk => pk_un hk⟩
  · unfold s_X_check s_House_firstWaitingWrong
    rw [h1, show (0 : Int32) = nI 0 from rfl, r1, p_b1]
    by_cases c : nI 0 ≤ r
    · rw [if_pos c, if_pos c]
    · rw [if_neg c, if_neg c]
  · unfold s_M_check
    rw [show (4 : Int32).toNatClampNeg = 4 from rfl, w2]
    exact r2
theorem q_pull {kind m cell broken fell : Nat → Int32} {count : Int32} {taken walls : Int64} {psteps pstack : Nat → Int32} {pcnt : Int32} {R E E2 : Nat → Int32} (hT : RTh kind m cell broken fell count taken walls R) (hc : RCd psteps pcnt 155 R) (hE : ErR E E2) (a : Int32) (F f : Nat → Int32) :
    ∃ r st' E' E2' F' f', s_X_pull a count psteps pstack pcnt E = some (r, st', E') ∧ s_M_pull a R E2 F f = some (r, E2', F', f') ∧ ErR E' E2' := by
  obtain ⟨n, K, M, C, h, -, -, -⟩ := hT
  obtain ⟨hn, h1, h2, -⟩ := h
  obtain ⟨len, o, v, d, hc⟩ := hc
  obtain ⟨E1, F1, x1, x2, x3⟩ := p_err hE (k := 1) (by omega)
  rcases p_rg a 0 9999 (by omega) (by omega) with ⟨hM, hX⟩ | ⟨j, -, hj, rfl, hM, hX⟩
  · refine ⟨eL 1, pstack, E1, F1, F, f, ?_, ?_, x3⟩
    · unfold s_X_pull
      refine (hX _ _).trans ?_
      unfold s_X_pull_c11
      rw [show (1 : Int32) = nI 1 from rfl, x1, p_b2]
    · unfold s_M_pull
      rw [show s_M_in a (0 : Int32) (9999 : Int32) = some 0 from hM, p_b1, if_pos rfl, show (-1000000001 : Int32) = eL 1 from by decide, x2, p_b2]
  · obtain ⟨st, y1⟩ := r_pullAt hc (nI j) (nI n) pstack
    obtain ⟨F', f', y2⟩ := r_pullOf hc (nI j) F f
    refine ⟨nI (plv len o v d (nI j) (nI j / 12) (nI n)), st, E, E2, F', f', ?_, ?_, hE⟩
    · unfold s_X_pull
      refine (hX _ _).trans ?_
      rw [h1, y1, p_b2]
    · unfold s_M_pull
      rw [show s_M_in (nI j) (0 : Int32) (9999 : Int32) = some 1 from hM, p_b1, if_neg (show ¬ (1 : Int32) = 0 by decide), y2, p_b3, h2]
theorem p_use (a : Int32) : (s_X_isUse a = some 0 ∧ s_M_in a 0 1 = some 0) ∨ ∃ j, j < 2 ∧ a = nI j ∧ s_X_isUse a = some 1 ∧ s_M_in a 0 1 = some 1 := by
  rcases p_rg a 0 1 (by omega) (by omega) with ⟨hM, hX⟩ | ⟨j, -, hj, rfl, hM, hX⟩
  · refine Or.inl ⟨?_, hM⟩
    unfold s_X_isUse
    rw [if_neg, if_neg]
    · intro e; subst e; exact absurd (hX (0 : Nat) 1) (by decide)
    · intro e; subst e; exact absurd (hX (0 : Nat) 1) (by decide)
  · refine Or.inr ⟨j, by omega, rfl, ?_, hM⟩
    rcases (show j = 0 ∨ j = 1 by omega) with e | e <;> subst e <;> rfl
theorem q_law {psteps pstack bsteps bstack : Nat → Int32} {pcnt bcnt : Int32} {R E E2 : Nat → Int32} (hc : RCd psteps pcnt 155 R) (hb : RCd bsteps bcnt 276 R) (hE : ErR E E2) (a x y z : Int32) (F f : Nat → Int32) :
    ∃ r st' st2' E' E2' F' f', s_X_law a x y z psteps pstack pcnt bsteps bstack bcnt E = some (r, st', st2', E') ∧ s_M_law a x y z R E2 F f = some (r, E2', F', f') ∧ ErR E' E2' := by
  obtain ⟨len, o, v, d, hc⟩ := hc
  obtain ⟨len2, o2, v2, d2, hb⟩ := hb
  obtain ⟨E1, F1, x1, x2, x3⟩ := p_err hE (k := 1) (by omega)
  rcases p_use a with ⟨hX, hM⟩ | ⟨j, hj, rfl, hX, hM⟩
  · refine ⟨eL 1, pstack, bstack, E1, F1, F, f, ?_, ?_, x3⟩
    · unfold s_X_law
      rw [hX, p_b1, if_pos rfl, show (1 : Int32) = nI 1 from rfl, x1, p_b2]
    · unfold s_M_law
      rw [hM, p_b1, if_pos rfl, show (-1000000001 : Int32) = eL 1 from by decide, x2, p_b2]
  · rcases (show j = 0 ∨ j = 1 by omega) with e | e <;> subst e
    · obtain ⟨st, y1⟩ := r_pullBy hc x y z pstack
      obtain ⟨F', f', y2⟩ := r_gives0 hc x y z F f
      refine ⟨nI (plv len o v d x y z), st, bstack, E, E2, F', f', ?_, ?_, hE⟩
      rotate_left
      · unfold s_M_law
        rw [hM, p_b1, if_neg (show ¬ (1 : Int32) = 0 by decide), y2, p_b3]
      · unfold s_X_law
        rw [hX, p_b1, if_neg (show ¬ (1 : Int32) = 0 by decide), if_pos (show nI 0 = (0 : Int32) from rfl), y1, p_b2]
    · obtain ⟨st, y1⟩ := r_breaksBy hb x y z bstack
      obtain ⟨F', f', y2⟩ := r_gives1 hb x y z F f
      refine ⟨if brv len2 o2 v2 d2 x y z = true then 1 else 0, pstack, st, E, E2, F', f', ?_, ?_, hE⟩
      rotate_left
      · unfold s_M_law
        rw [hM, p_b1, if_neg (show ¬ (1 : Int32) = 0 by decide), y2, p_b3]
      · unfold s_X_law
        rw [hX, p_b1, if_neg (show ¬ (1 : Int32) = 0 by decide), if_neg (show ¬ nI 1 = (0 : Int32) by decide), y1, p_b2]
        cases brv len2 o2 v2 d2 x y z <;> rfl
theorem CdR_nil {steps : Nat → Int32} {base : Nat} {R : Nat → Int32} (h : R base = 0) : RCd steps 0 base R :=
  ⟨0, fun _ => 0, fun _ => 0, fun _ => 0, by omega, rfl, h, rfl, fun k hk => absurd hk (Nat.not_lt_zero _)⟩
theorem p_tld {steps : Nat → Int32} {cnt : Int32} {base : Nat} {R : Nat → Int32} (h : RCd steps cnt base R) : R base = cnt ∧ ((s_Law_isTold cnt = some 0 ∧ cnt ≤ 0) ∨ (s_Law_isTold cnt = some 1 ∧ ¬ cnt ≤ 0)) := by
  obtain ⟨len, o, v, d, h0, rfl, h2, -⟩ := h
  refine ⟨h2, ?_⟩
  unfold s_Law_isTold
  by_cases c : nI len ≤ 0
  · exact Or.inl ⟨by rw [if_pos c], c⟩
  · exact Or.inr ⟨by rw [if_neg c], c⟩
theorem q_untell {psteps bsteps : Nat → Int32} {pcnt bcnt : Int32} {R E E2 : Nat → Int32} (hc : RCd psteps pcnt 155 R) (hb : RCd bsteps bcnt 276 R) (hE : ErR E E2) (a : Int32) :
    ∃ r pcnt' bcnt' E' R' E2', s_X_untell a pcnt bcnt E = some (r, pcnt', bcnt', E') ∧ s_M_untell a R E2 = some (r, R', E2') ∧ RCd psteps pcnt' 155 R' ∧ RCd bsteps bcnt' 276 R' ∧ ErR E' E2' ∧ (∀ k, k ≠ 155 → k ≠ 276 → R' k = R k) := by
  obtain ⟨E1, F1, x1, x2, x3⟩ := p_err hE (k := 1) (by omega)
  obtain ⟨tc, hc'⟩ := p_tld hc
  obtain ⟨tb, hb'⟩ := p_tld hb
  rcases p_use a with ⟨hX, hM⟩ | ⟨j, hj, rfl, hX, hM⟩
  · refine ⟨eL 1, pcnt, bcnt, E1, R, F1, ?_, ?_, hc, hb, x3, fun _ _ _ => rfl⟩
    · unfold s_X_untell
      rw [hX, p_b1, if_pos rfl, show (1 : Int32) = nI 1 from rfl, x1, p_b2]
    · unfold s_M_untell
      rw [hM, p_b1, if_pos rfl, show (-1000000001 : Int32) = eL 1 from by decide, x2, p_b2]
  · rcases (show j = 0 ∨ j = 1 by omega) with e | e <;> subst e
    · refine ⟨if pcnt ≤ 0 then 0 else 1, 0, bcnt, E, upd R 155 0, E2, ?_, ?_, CdR_nil pk_us, ?_, hE, fun k k1 k2 => pk_un k1⟩
      · unfold s_X_untell s_X_untell_c32 s_Law_forget
        rw [hX, p_b1, if_neg (show ¬ (1 : Int32) = 0 by decide), if_pos (show nI 0 = (0 : Int32) from rfl)]
        rcases hc' with ⟨u1, u2⟩ | ⟨u1, u2⟩
        · rw [u1, p_b1, if_pos rfl, if_pos (show nI 0 = (0 : Int32) from rfl), p_b1, if_pos u2]
        · rw [u1, p_b1, if_neg (show ¬ (1 : Int32) = 0 by decide), if_pos (show nI 0 = (0 : Int32) from rfl), p_b1, if_neg u2]
      · unfold s_M_untell
        rw [hM, p_b1, if_neg (show ¬ (1 : Int32) = 0 by decide), show (155 : Int32) + (121 : Int32) * nI 0 = nI 155 from by decide, p_becomes (by omega), p_b2, tc]
        by_cases u2 : pcnt ≤ 0
        · rw [if_pos u2, if_pos u2]
        · rw [if_neg u2, if_neg u2]
      · obtain ⟨len, o, v, d, hb⟩ := hb
        exact ⟨len, o, v, d, CdR_on hb (fun j q1 q2 => pk_un (by omega))⟩
    · refine ⟨if bcnt ≤ 0 then 0 else 1, pcnt, 0, E, upd R 276 0, E2, ?_, ?_, ?_, CdR_nil pk_us, hE, fun k k1 k2 => pk_un k2⟩
      · unfold s_X_untell s_X_untell_c32 s_Law_forget
        rw [hX, p_b1, if_neg (show ¬ (1 : Int32) = 0 by decide), if_neg (show ¬ nI 1 = (0 : Int32) by decide)]
        rcases hb' with ⟨u1, u2⟩ | ⟨u1, u2⟩
        · rw [u1, p_b1, if_pos rfl, if_neg (show ¬ nI 1 = (0 : Int32) by decide), p_b1, if_pos u2]
        · rw [u1, p_b1, if_neg (show ¬ (1 : Int32) = 0 by decide), if_neg (show ¬ nI 1 = (0 : Int32) by decide), p_b1, if_neg u2]
      · unfold s_M_untell
        rw [hM, p_b1, if_neg (show ¬ (1 : Int32) = 0 by decide), show (155 : Int32) + (121 : Int32) * nI 1 = nI 276 from by decide, p_becomes (by omega), p_b2, tb]
        by_cases u2 : bcnt ≤ 0
        · rw [if_pos u2, if_pos u2]
        · rw [if_neg u2, if_neg u2]
      · obtain ⟨len, o, v, d, hc⟩ := hc
        exact ⟨len, o, v, d, CdR_on hc (fun j q1 q2 => pk_un (by omega))⟩
