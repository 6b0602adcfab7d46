/-! pure 16: thoughts: when, farthest -/
theorem p_one {n : Nat} {K M C : Nat → Nat} {kind mm cell : Nat → Int32} {count : Int32} {taken walls : Int64} {len len2 : Nat} {o v d o2 v2 d2 : Nat → Nat} {psteps bsteps : Nat → Int32} {pcnt bcnt : Int32} {R : Nat → Int32} (hT : ThR n K M C kind mm cell count taken walls R) (hc1 : CdR len o v d psteps pcnt 155 R) (hc2 : CdR len2 o2 v2 d2 bsteps bcnt 276 R) (F f : Nat → Int32) : ∃ R' F' f', s_M_goesOn (1 : Int32) R F f = some (R', F', f') := by
  have hn : n ≤ 6 := hT.1
  obtain ⟨F1, f1, y2⟩ := r_pullOf hc1 (R 0) F f
  obtain ⟨C1, cell1, broken1, fell1, tk1, st1, R1, F2, f2, g1, g2, g3, g4, g5, g6⟩ := r_goes (hour := 0) (w := plv len o v d (R 0) (R 0 / 12) (R 2)) (plv_lt _ _ _ _ _ _ _) 400 400 n 0 C cell (fun u => R (44 + 5 * u)) (fun u => R (45 + 5 * u)) taken (fun _ => 0) R F1 f1 (by omega) (by omega) (by omega) hT (fun u hu => rfl) (fun u hu => rfl) hc2
  refine ⟨upd R1 0 (R1 0 + 1), F2, f2, ?_⟩
  unfold s_M_goesOn
  rw [s_M_goesOn_c2, if_neg (show ¬ (1 : Int32) ≤ 0 by decide), show (0 : Int32).toNatClampNeg = 0 from rfl, y2, p_b3]
  unfold s_M_goes
  rw [show s_M_goes_c2 (nI (plv len o v d (R 0) (R 0 / 12) (R 2))) (0 : Int32) 400 (0 : Int32) R F1 f1 = _ from g2, p_b3, s_M_goesOn_c2, if_pos (show (1 : Int32) ≤ 0 + 1 by decide)]
/-- one hour of the model, held 0 -/
theorem p_on1 {w : Int32} {R F f F1 f1 R' F' f' : Nat → Int32} (h1 : s_M_pullOf (R 0) R F f = some (w, F1, f1)) (h2 : s_M_goes w (0 : Int32) R F1 f1 = some (R', F', f')) : s_M_goesOn (1 : Int32) R F f = some (R', F', f') := by
  unfold s_M_goesOn
  rw [s_M_goesOn_c2, if_neg (show ¬ (1 : Int32) ≤ 0 by decide), show (0 : Int32).toNatClampNeg = 0 from rfl, h1, p_b3, h2, p_b3, s_M_goesOn_c2, if_pos (show (1 : Int32) ≤ 0 + 1 by decide)]
theorem p_at {n t c : Nat} {K M C : Nat → Nat} {kind m cell : Nat → Int32} {count : Int32} {taken walls : Int64} {R : Nat → Int32} (h : ThR n K M C kind m cell count taken walls R) (ht : t < n) (hc : c < 36) : fd (fun u => decide (cell u = nI c)) n 0 = nI t ↔ C t = c := by
  have hn : n ≤ 6 := h.1
  rcases p_fdC h hc with ⟨e, h1⟩ | ⟨u, hu, e1, e2⟩
  · rw [e]
    constructor
    · intro z
      exact absurd z (by rcases (show t = 0 ∨ t = 1 ∨ t = 2 ∨ t = 3 ∨ t = 4 ∨ t = 5 by omega) with e | e | e | e | e | e <;> subst e <;> decide)
    · intro z; exact absurd z (h1 t ht)
  · rw [e2, nI_eq (by omega) (by omega)]
    constructor
    · intro z; subst z; exact e1
    · intro z; exact h.2.2.2.2.2.2.1 u t hu ht (by rw [e1, z])
theorem p_when {n h t c : Nat} {K M : Nat → Nat} {kind mm broken pulls : Nat → Int32} {walls : Int64} {len len2 : Nat} {o v d o2 v2 d2 : Nat → Nat} {psteps bsteps : Nat → Int32} {pcnt bcnt : Int32} {R0 B E E2 : Nat → Int32} (ht : t < n) (hcc : c < 36) (hp : ∀ j, j < 100 → pulls j = nI (plv len o v d (nI (h + j)) (nI (h + j) / 12) (nI n))) (hB : ∀ j, j < 397 → B j = R0 j) (hE : ErR E E2) :
    ∀ (fuel fuel' q i : Nat) (C : Nat → Nat) (cell fell : Nat → Int32) (taken : Int64) (R F f : Nat → Int32), i + q = 100 → q < fuel → q + 1 < fuel' → R 0 = nI (h + i) → ThR n K M C kind mm cell (nI n) taken walls R → CdR len o v d psteps pcnt 155 R → CdR len2 o2 v2 d2 bsteps bcnt 276 R →
    ∃ r cell' fell' tk' r2 E' R' E2' F' f', s_Thought_hoursUntil_c14 (nI t) (nI c) (nI 100) kind mm broken (nI n) pulls walls fuel (nI i) cell fell taken = some (r, kind, mm, cell', broken, fell', nI n, tk') ∧ ((0 ≤ r ∧ r2 = r ∧ E' = E) ∨ (¬ 0 ≤ r ∧ s_X_error (2 : Int32) E = some (r2, E'))) ∧ s_M_when_c28 (nI t) (nI c) B E2 fuel' (nI i) R F f = some (r2, R', B, E2', F', f') ∧ (∀ j, j < 397 → R' j = R0 j) ∧ ErR E' E2' := by
  obtain ⟨E1, F2, x1, x2, x3⟩ := p_err hE (k := 2) (by omega)
  have c55 : ∀ (i : Nat) (R F f : Nat → Int32), i ≤ 100 → ∃ R', s_M_when_c55 (nI i) R B E2 F f = some (nI i, R', B, E2, F, f) ∧ ∀ j, j < 397 → R' j = R0 j := by
    intro i R F f hi
    obtain ⟨Z, z1, z2⟩ := p_putsBack R B
    refine ⟨Z, ?_, fun j hj => (z2 j hj).trans (hB j hj)⟩
    unfold s_M_when_c55
    rw [z1, p_b1, if_pos (show nI i ≤ (100 : Int32) from nI_le (b := 100) (by omega) (by omega))]
  intro fuel
  induction fuel with
  | zero => intro fuel' q i C cell fell taken R F f _ h; exact absurd h (Nat.not_lt_zero _)
  | succ fuel ih =>
    intro fuel' q i C cell fell taken R F f hq hf hf' h0 hT hc1 hc2
    cases fuel' with
    | zero => exact absurd hf' (Nat.not_lt_zero _)
    | succ fuel' =>
    rw [s_Thought_hoursUntil_c14, s_M_when_c28, if_neg (show ¬ (100 : Int32) < nI i from nI_nlt (a := 100) (by omega) (by omega))]
    obtain ⟨hn, -, -, -, -, h5, -⟩ := id hT
    have hi0 : (0 : Int32) ≤ nI i := nI_le (a := 0) (by omega) (by omega)
    rw [p_tin _ _ hn, show s_M_of (nI t) (2 : Int32) R = some (nI (C t)) from by rw [show (2 : Int32) = nI 2 from rfl, p_of (by omega) (by omega), show 41 + 5 * t + 2 = 43 + 5 * t by omega, (h5 t ht).2.2]]
    simp only [p_b1]
    by_cases e : C t = c
    · have e1 : fd (fun u => decide (cell u = nI c)) n 0 = nI t := (p_at hT ht hcc).mpr e
      obtain ⟨R', z1, z2⟩ := c55 i R F f (by omega)
      refine ⟨nI i, cell, fell, taken, nI i, E, R', E2, F, f, ?_, Or.inl ⟨hi0, rfl, rfl⟩, ?_, z2, hE⟩
      · by_cases y : i = 100
        · subst y
          rw [if_pos (nI_le (by omega) (by omega)), if_pos e1]
        · rw [if_neg (nI_ge (by omega) (by omega)), if_pos e1]
      · rw [if_pos (show nI (C t) = nI c by rw [e])]
        exact z1
    · have e1 : ¬ fd (fun u => decide (cell u = nI c)) n 0 = nI t := fun z => e ((p_at hT ht hcc).mp z)
      have e2 : ¬ nI (C t) = nI c := fun z => e ((nI_eq (by have := (h5 t ht).2.1; omega) (by omega)).mp z)
      rw [if_neg e2]
      cases q with
      | zero =>
        obtain ⟨R', F', f', g⟩ := p_one hT hc1 hc2 F f
        obtain ⟨Z, z1, z2⟩ := p_putsBack R' B
        refine ⟨-1, cell, fell, taken, eL 2, E1, Z, F2, F', f', ?_, Or.inr ⟨by decide, x1⟩, ?_, fun j hj => (z2 j hj).trans (hB j hj), x3⟩
        · rw [if_pos (nI_le (by omega) (by omega)), if_neg e1]
        · rw [g, p_b3]
          cases fuel' with
          | zero => exact absurd hf' (by omega)
          | succ fuel' =>
          rw [s_M_when_c28, show nI i + (1 : Int32) = nI (i + 1) from nI_add i 1, if_pos (show (100 : Int32) < nI (i + 1) from nI_lt (a := 100) (by omega) (by omega))]
          unfold s_M_when_c55
          rw [z1, p_b1, if_neg (show ¬ nI (i + 1) ≤ (100 : Int32) from nI_ge (a := 100) (by omega) (by omega)), show (-1000000002 : Int32) = eL 2 from by decide, x2, p_b2]
      | succ q =>
        obtain ⟨a', C', Fl', cell', fell', tk', R', F1, f1, F', f', g1, g2, g3, g4, -, -, -, g5, g6, g7⟩ := p_step (held := (0 : Int32)) (fell := fell) (by omega) hT hc1 hc2 (hp i (by omega)) h0 F f
        rw [if_neg (nI_ge (by omega) (by omega)), if_neg e1, g1, p_b4, p_on1 (by rw [h0]; exact g2) g3, p_b3, show nI i + (1 : Int32) = nI (i + 1) from nI_add i 1]
        exact ih fuel' q (i + 1) C' cell' fell' tk' R' F' f' (by omega) (by omega) (by omega) g7 g4 g5 g6
theorem q_when {kind m cell broken fell : Nat → Int32} {count hour : Int32} {taken walls : Int64} {psteps pstack bsteps : Nat → Int32} {pcnt bcnt : Int32} {R E E2 : Nat → Int32} (hT : RTh kind m cell broken fell count taken walls R) (hh : RHr hour R) (hc : RCd psteps pcnt 155 R) (hb : RCd bsteps bcnt 276 R) (hE : ErR E E2) (a b : Int32) (tk tm tc tb tf : Nat → Int32) (tn : Int32) (tt : Int64) (tp B F f : Nat → Int32) :
    ∃ r st' tk' tm' tc' tb' tf' tn' tt' tp' E' R' B' E2' F' f', s_X_when a b kind m cell broken fell count taken walls hour psteps pstack pcnt tk tm tc tb tf tn tt tp E = some (r, st', tk', tm', tc', tb', tf', tn', tt', tp', E') ∧ s_M_when a b R B E2 F f = some (r, R', B', E2', F', f') ∧ ErR E' E2' ∧ (∀ j, j < 397 → R' j = R j) := by
  obtain ⟨E1, F1, x1, x2, x3⟩ := p_err hE (k := 1) (by omega)
  obtain ⟨n, K, M, C, h, hbr, hf, hu⟩ := id hT
  obtain ⟨hn, h1, h2, -⟩ := id h
  obtain ⟨hr, hr1, rfl, hr2⟩ := id hh
  obtain ⟨len, o, v, d, hc⟩ := hc
  obtain ⟨len2, o2, v2, d2, hb⟩ := hb
  subst h1
  have oX : s_X_when_c21 pstack tk tm tc tb tf tn tt tp E = some (eL 1, pstack, tk, tm, tc, tb, tf, tn, tt, tp, E1) := by
    unfold s_X_when_c21
    rw [show (1 : Int32) = nI 1 from rfl, x1, p_b2]
  have oM : s_M_when_c15 R B E2 F f = some (eL 1, R, B, F1, F, f) := by
    unfold s_M_when_c15
    rw [show (-1000000001 : Int32) = eL 1 from by decide, x2, p_b2]
  rcases p_ix a n (by omega) with ho | ⟨t, ht, rfl⟩
  · refine ⟨eL 1, pstack, tk, tm, tc, tb, tf, tn, tt, tp, E1, R, B, F1, F, f, ?_, ?_, x3, fun _ _ => rfl⟩
    · unfold s_X_when
      rw [p_hO ho, p_b1, if_pos rfl, oX]
    · unfold s_M_when
      rw [p_thO hn h2 ho, p_b1, if_pos rfl, oM]
  · rcases p_ix b 36 (by omega) with ho | ⟨c, hcc, rfl⟩
    · refine ⟨eL 1, pstack, tk, tm, tc, tb, tf, tn, tt, tp, E1, R, B, F1, F, f, ?_, ?_, x3, fun _ _ => rfl⟩
      · unfold s_X_when
        rw [p_has ht hn, p_b1, if_neg (show ¬ (1 : Int32) = 0 by decide), (p_cO ho).1, p_b1, if_pos rfl, oX]
      · unfold s_M_when
        rw [p_thI hn h2 ht, p_b1, if_neg (show ¬ (1 : Int32) = 0 by decide), (p_cO ho).2, p_b1, if_pos rfl, oM]
    · obtain ⟨pulls', st', y1, y2⟩ := p_fores (h := hr) (n := nI n) (m := 100) (by omega) hc 400 100 0 tp pstack (by omega) (by omega) (fun j hj => absurd hj (Nat.not_lt_zero _))
      obtain ⟨k', m', c', b', f', z1, z2⟩ := p_takeOver tk tm tc tb tf kind m cell broken fell tn (nI n) tt taken
      obtain ⟨B', w1, w2⟩ := p_thinks R B
      obtain ⟨r, cell', fell', tk2, r2, E', R', E2', F', f2, g1, g2, g3, g4, g5⟩ := p_when (kind := k') (mm := m') (broken := b') (pulls := pulls') (walls := walls) (R0 := R) (B := B') ht hcc y2 w2 hE 400 400 100 0 C c' f' taken R F f (by omega) (by omega) (by omega) hr2 (ThR_ag h (fun u hu => ⟨(z2 u hu).1, (z2 u hu).2.1, (z2 u hu).2.2.1⟩)) hc hb
      refine ⟨r2, st', k', m', cell', b', fell', nI n, tk2, pulls', E', R', B', E2', F', f2, ?_, ?_, g5, g4⟩
      · unfold s_X_when
        rw [p_has ht hn, p_b1, if_neg (show ¬ (1 : Int32) = 0 by decide), (p_cI hcc).1, p_b1, if_neg (show ¬ (1 : Int32) = 0 by decide)]
        unfold s_Thought_foresee s_Thought_hoursUntil
        rw [show s_Thought_foresee_c3 (nI hr) (100 : Int32) (nI n) psteps pcnt 400 (0 : Int32) tp pstack = some (pulls', st') from y1, p_b2, z1, p_b7, show s_Thought_hoursUntil_c14 (nI t) (nI c) (100 : Int32) k' m' b' (nI n) pulls' walls 400 (0 : Int32) c' f' taken = _ from g1, p_b8]
        rcases g2 with ⟨g2, rfl, rfl⟩ | ⟨g2, g2'⟩
        · rw [if_pos g2]
        · rw [if_neg g2, g2', p_b2]
      · unfold s_M_when
        rw [p_thI hn h2 ht, p_b1, if_neg (show ¬ (1 : Int32) = 0 by decide), (p_cI hcc).2, p_b1, if_neg (show ¬ (1 : Int32) = 0 by decide), w1, p_b1]
        exact g3
