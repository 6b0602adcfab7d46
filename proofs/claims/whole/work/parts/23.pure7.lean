/-! pure 9: what both programs keep; errors; walls -/
def ErR (E E2 : Nat → Int32) : Prop := ∀ k, k < 7 → E k = E2 k
def eL (k : Nat) : Int32 := (-1000000000 : Int32) - nI k
theorem eL_k : ∀ k, k < 7 → (-1000000000 : Int32) - eL k = nI k := by decide +kernel
theorem p_err {E E2 : Nat → Int32} (h : ErR E E2) {k : Nat} (h6 : k < 7) : ∃ E' E2', s_X_error (nI k) E = some (eL k, E') ∧ s_M_error (eL k) E2 = some (eL k, E2') ∧ ErR E' E2' := by
  refine ⟨upd E k (E k + 1), upd E2 k (E2 k + 1), ?_, ?_, fun j hj => ?_⟩
  · unfold s_X_error s_X_error_c23
    rw [if_neg (p_nlt0 (by omega)), if_neg (show ¬ (7 : Int32) ≤ nI k from nI_ge (b := 7) (by omega) (by omega)), p_chk (by omega) (by omega), p_chk (by omega) (by omega), nI_clamp (by omega)]
    rfl
  · unfold s_M_error
    rw [eL_k k h6, p_chk (by omega) (by omega), p_chk (by omega) (by omega), nI_clamp (by omega)]
  · by_cases q : j = k
    · rw [q, pk_us, pk_us, h k h6]
    · rw [pk_un q, pk_un q, h j hj]
theorem p_ti (n : Nat) (h : n < 2 ^ 31) : (nI n).toInt = (n : Int) := nI_toInt h
theorem p_inO {x : Int32} {N : Nat} (hN : N < 2 ^ 30) (h : x < 0 ∨ nI (N + 1) ≤ x) : s_M_in x 0 (nI N) = some 0 := by
  unfold s_M_in
  rcases h with h | h
  · rw [if_pos h]
  · by_cases c : x < 0
    · rw [if_pos c]
    · rw [if_neg c, if_pos]
      rw [Int32.lt_iff_toInt_lt, p_ti N (by omega)]
      rw [Int32.le_iff_toInt_le, p_ti (N + 1) (by omega)] at h
      omega
theorem p_inI {j N : Nat} (hN : N < 2 ^ 30) (h : j ≤ N) : s_M_in (nI j) 0 (nI N) = some 1 := by
  unfold s_M_in
  rw [if_neg (p_nlt0 (by omega)), if_neg (nI_nlt h (by omega))]
theorem p_cO {x : Int32} (h : x < 0 ∨ nI 36 ≤ x) : s_Grid_isCell x = some 0 ∧ s_M_isCell x = some 0 := by
  constructor
  · unfold s_Grid_isCell
    rcases h with h | h
    · rw [if_pos h]
    · by_cases c : x < 0
      · rw [if_pos c]
      · rw [if_neg c, if_pos (show (36 : Int32) ≤ x from h)]
  · unfold s_M_isCell
    rw [show (35 : Int32) = nI 35 from rfl, p_inO (by omega) h, p_b1, p_bz (Or.inl rfl)]
theorem p_cI {c : Nat} (h : c < 36) : s_Grid_isCell (nI c) = some 1 ∧ s_M_isCell (nI c) = some 1 := by
  constructor
  · unfold s_Grid_isCell
    rw [if_neg (p_nlt0 (by omega)), if_neg (show ¬ (36 : Int32) ≤ nI c from nI_ge (b := 36) (by omega) (by omega))]
  · unfold s_M_isCell
    rw [show (35 : Int32) = nI 35 from rfl, p_inI (by omega) (by omega), p_b1, p_bz (Or.inr rfl)]
theorem p_hO {x : Int32} {n : Nat} (h : x < 0 ∨ nI n ≤ x) : s_Things_has x (nI n) = some 0 := by
  unfold s_Things_has
  rcases h with h | h
  · rw [if_pos h]
  · by_cases c : x < 0
    · rw [if_pos c]
    · rw [if_neg c, if_pos h]
theorem p_thO {x : Int32} {n : Nat} {R : Nat → Int32} (hn : n ≤ 6) (hR : R 2 = nI n) (h : x < 0 ∨ nI n ≤ x) : s_M_isThing x R = some 0 := by
  have h1 : (nI n - 1).toInt = (n : Int) - 1 := by
    have h1 : (1 : Int32).toInt = 1 := by decide
    rw [p_subI (by rw [p_ti n (by omega), h1]; omega) (by rw [p_ti n (by omega), h1]; omega), p_ti n (by omega), h1]
  have key : s_M_in x 0 (nI n - 1) = some 0 := by
    unfold s_M_in
    by_cases c : x < 0
    · rw [if_pos c]
    · rcases h with h | h
      · exact absurd h c
      · rw [if_neg c, if_pos]
        rw [Int32.lt_iff_toInt_lt, h1]
        rw [Int32.le_iff_toInt_le, p_ti n (by omega)] at h
        omega
  unfold s_M_isThing
  rw [show (2 : Int32).toNatClampNeg = 2 from rfl, hR, key, p_b1, p_bz (Or.inl rfl)]
theorem p_thI {t n : Nat} {R : Nat → Int32} (hn : n ≤ 6) (hR : R 2 = nI n) (h : t < n) : s_M_isThing (nI t) R = some 1 := by
  unfold s_M_isThing
  rw [show (2 : Int32).toNatClampNeg = 2 from rfl, hR, show nI n - (1 : Int32) = nI (n - 1) from pk_sub (a := n) (b := 1) (by omega), p_inI (by omega) (by omega), p_b1, p_bz (Or.inr rfl)]
theorem p_wallAt {walls : Int64} {c : Nat} (h : c < 64) : s_House_wallAt (nI c) walls = some (if bL walls c = true then 1 else 0) := by
  unfold s_House_wallAt
  rw [p_isIn walls h, p_b1]
  cases bL walls c <;> rfl
theorem p_fdEq {n : Nat} {K M C : Nat → Nat} {kind m cell : Nat → Int32} {count : Int32} {taken walls : Int64} {R : Nat → Int32} (h : ThR n K M C kind m cell count taken walls R) (x : Int32) : fd (fun t => decide (R (43 + 5 * t) = x)) n 0 = fd (fun t => decide (cell t = x)) n 0 := by
  apply fd_congr
  intro t _ ht
  obtain ⟨-, -, -, -, -, h5, -⟩ := h
  have := h5 t (by omega)
  rw [this.1, this.2.2]
theorem p_fdC {n : Nat} {K M C : Nat → Nat} {kind m cell : Nat → Int32} {count : Int32} {taken walls : Int64} {R : Nat → Int32} (h : ThR n K M C kind m cell count taken walls R) {c : Nat} (hc : c < 36) : (fd (fun t => decide (cell t = nI c)) n 0 = -1 ∧ ∀ t, t < n → C t ≠ c) ∨ ∃ t, t < n ∧ C t = c ∧ fd (fun t => decide (cell t = nI c)) n 0 = nI t := by
  obtain ⟨hn, -, -, -, -, h5, -⟩ := h
  rcases fd_some (p := fun t => decide (cell t = nI c)) n 0 with ⟨h1, h2⟩ | ⟨j, h1, h2, h3, h4⟩
  · refine Or.inl ⟨h1, fun t ht e => ?_⟩
    have := h2 t (by omega) (by omega)
    simp only [decide_eq_false_iff_not] at this
    exact this (by rw [(h5 t ht).1, e])
  · simp only [decide_eq_true_eq] at h3
    have hj := h5 j (by omega)
    rw [hj.1, nI_eq (by omega) (by omega)] at h3
    exact Or.inr ⟨j, by omega, h3, h4⟩
/-- the things and the walls -/
def RTh (kind m cell broken fell : Nat → Int32) (count : Int32) (taken walls : Int64) (R : Nat → Int32) : Prop :=
  ∃ (n : Nat) (K M C : Nat → Nat), ThR n K M C kind m cell count taken walls R ∧ (∀ u, u < n → broken u = R (44 + 5 * u)) ∧ (∀ u, u < n → fell u = R (45 + 5 * u)) ∧ (∀ c, 36 ≤ c → c < 64 → bL walls c = false)
/-- only what is told of things and walls has changed -/
def frT (R R' : Nat → Int32) : Prop := ∀ j, (j < 2 ∨ j = 3 ∨ j = 4 ∨ 71 ≤ j) → R' j = R j
theorem frT_rf {R : Nat → Int32} : frT R R := fun _ _ => rfl
theorem frT_tr {R R1 R2 : Nat → Int32} (h1 : frT R R1) (h2 : frT R1 R2) : frT R R2 := fun j hj => (h2 j hj).trans (h1 j hj)
theorem frT_upd {R : Nat → Int32} {k : Nat} {x : Int32} (h : k = 2 ∨ (5 ≤ k ∧ k ≤ 70)) : frT R (upd R k x) := fun j hj => pk_un (by omega)
theorem ThR_wall {n : Nat} {K M C : Nat → Nat} {kind m cell : Nat → Int32} {count : Int32} {taken walls walls' : Int64} {R : Nat → Int32} (h : ThR n K M C kind m cell count taken walls R) {c : Nat} {w : Bool} (hc : c < 36) (hw : ∀ d, d < 64 → bL walls' d = if d = c then w else bL walls d) (hf : w = true → ∀ t, t < n → C t ≠ c) : ThR n K M C kind m cell count taken walls' (upd R (5 + c) (if w = true then 1 else 0)) := by
  obtain ⟨hn, h1, h2, h3, h4, h5, h6, h7, h8, h9⟩ := h
  refine ⟨hn, h1, by rw [pk_un (by omega)]; exact h2, fun t ht => ?_, fun t ht => ?_, fun t ht => ?_, h6, fun t ht => ?_, h8, fun d hd => ?_⟩
  · rw [pk_un (by omega)]; exact h3 t ht
  · rw [pk_un (by omega)]; exact h4 t ht
  · rw [pk_un (by omega)]; exact h5 t ht
  · rw [hw _ (by have := (h5 t ht).2.1; omega)]
    by_cases q : C t = c
    · rw [if_pos q]
      cases w with
      | false => rfl
      | true => exact absurd q (hf rfl t ht)
    · rw [if_neg q]; exact h7 t ht
  · rw [hw d (by omega)]
    by_cases q : d = c
    · rw [q, pk_us, if_pos rfl]
    · rw [pk_un (by omega), if_neg q]; exact h9 d hd
theorem p_setWall {walls : Int64} {c j : Nat} (hc : c < 36) (hj : j < 2) : ∃ walls', s_House_setWall (nI c) (nI j) walls = some walls' ∧ ∀ d, d < 64 → bL walls' d = if d = c then decide (j = 1) else bL walls d := by
  unfold s_House_setWall
  rcases (show j = 0 ∨ j = 1 by omega) with e | e <;> subst e
  · refine ⟨_, by rw [if_neg (by decide)], fun d hd => ?_⟩
    rw [bL_and, bL_not _ hd, bL_one c (by omega) d hd]
    by_cases q : d = c
    · rw [if_pos q, decide_eq_true q, Bool.not_true, Bool.and_false]; rfl
    · rw [if_neg q, decide_eq_false q, Bool.not_false, Bool.and_true]
  · refine ⟨_, by rw [if_pos (by rfl)], fun d hd => ?_⟩
    rw [bL_or, bL_one c (by omega) d hd]
    by_cases q : d = c
    · rw [if_pos q, decide_eq_true q, Bool.or_true]; rfl
    · rw [if_neg q, decide_eq_false q, Bool.or_false]
theorem p_becomes {k : Nat} {x : Int32} {R : Nat → Int32} (h : k < 397) : s_M_becomes (nI k) x R = some (R k, upd R k x) := by
  unfold s_M_becomes
  rw [p_chk h (by omega), p_chk h (by omega), nI_clamp (by omega)]
theorem q_wall {kind m cell broken fell : Nat → Int32} {count : Int32} {taken walls : Int64} {R E E2 : Nat → Int32} (hT : RTh kind m cell broken fell count taken walls R) (hE : ErR E E2) (a b : Int32) :
    ∃ r walls' E' R' E2', s_X_wall a b cell count walls E = some (r, walls', E') ∧ s_M_wall a b R E2 = some (r, R', E2') ∧ RTh kind m cell broken fell count taken walls' R' ∧ ErR E' E2' ∧ frT R R' := by
  obtain ⟨n, K, M, C, h, hb, hf, hu⟩ := id hT
  obtain ⟨hn, h1, h2, h3, h4, h5, h6, h7, h8, h9⟩ := id h
  obtain ⟨E1, F1, x1, x2, x3⟩ := p_err hE (k := 1) (by omega)
  obtain ⟨E3, F3, y1, y2, y3⟩ := p_err hE (k := 3) (by omega)
  rcases p_ix a 36 (by omega) with ho | ⟨c, hc, rfl⟩
  · refine ⟨eL 1, walls, E1, R, F1, ?_, ?_, hT, x3, frT_rf⟩
    · unfold s_X_wall s_X_wall_c16
      rw [(p_cO ho).1, p_b1, if_pos rfl, show (1 : Int32) = nI 1 from rfl, x1, p_b2]
    · unfold s_M_wall s_M_wall_c16
      rw [(p_cO ho).2, p_b1, if_pos rfl, show (-1000000001 : Int32) = eL 1 from by decide, x2, p_b2]
  · rcases p_ix b 2 (by omega) with ho | ⟨j, hj, rfl⟩
    · refine ⟨eL 1, walls, E1, R, F1, ?_, ?_, hT, x3, frT_rf⟩
      · unfold s_X_wall s_X_wall_c16
        rw [(p_cI hc).1, p_b1, if_neg (by decide)]
        by_cases c1 : b < 0
        · rw [if_pos c1, show (1 : Int32) = nI 1 from rfl, x1, p_b2]
        · rcases ho with ho | ho
          · exact absurd ho c1
          · have : ¬ b ≤ 1 := by
              rw [Int32.le_iff_toInt_le, p_ti 2 (by omega)] at ho
              rw [Int32.le_iff_toInt_le, show (1 : Int32).toInt = 1 from by decide]
              omega
            rw [if_neg c1, if_neg this, show (1 : Int32) = nI 1 from rfl, x1, p_b2]
      · unfold s_M_wall s_M_wall_c16
        rw [(p_cI hc).2, p_b1, if_neg (by decide), show s_M_in b 0 1 = some 0 from p_inO (N := 1) (by omega) ho, p_b1, if_pos rfl, show (-1000000001 : Int32) = eL 1 from by decide, x2, p_b2]
    · obtain ⟨walls', w1, w2⟩ := p_setWall (walls := walls) hc hj
      have hj1 : nI j ≤ (1 : Int32) := nI_le (a := j) (b := 1) (by omega) (by omega)
      have done : (j = 1 → ∀ t, t < n → C t ≠ c) → RTh kind m cell broken fell count taken walls' (upd R (5 + c) (nI j)) := by
        intro hfr
        refine ⟨n, K, M, C, ?_, fun u hu => by rw [pk_un (by omega)]; exact hb u hu, fun u hu => by rw [pk_un (by omega)]; exact hf u hu, fun d h36 h64 => by rw [w2 d h64, if_neg (by omega)]; exact hu d h36 h64⟩
        have := ThR_wall h (walls' := walls') (w := decide (j = 1)) hc w2 (fun q => hfr (by simpa using q))
        rcases (show j = 0 ∨ j = 1 by omega) with e | e <;> subst e <;> exact this
      have eX : s_X_wall_c47 (nI c) (nI j) walls E = some (if bL walls c = true then 1 else 0, walls', E) := by
        unfold s_X_wall_c47
        rw [p_wallAt (by omega), p_b1, w1, p_b1]
      have eM : s_M_wall_c45 (nI c) (nI j) R E2 = some (if bL walls c = true then 1 else 0, upd R (5 + c) (nI j), E2) := by
        unfold s_M_wall_c45
        rw [show (5 : Int32) + nI c = nI (5 + c) from nI_add 5 c, p_becomes (by omega), p_b2, h9 c hc]
      rcases (show j = 0 ∨ j = 1 by omega) with e | e
      · subst e
        refine ⟨if bL walls c = true then 1 else 0, walls', E, upd R (5 + c) (nI 0), E2, ?_, ?_, done (fun q => absurd q (by decide)), hE, frT_upd (by omega)⟩
        · unfold s_X_wall
          rw [(p_cI hc).1, p_b1, if_neg (by decide), if_neg (by decide), if_pos (by decide), if_neg (by decide)]
          exact eX
        · unfold s_M_wall
          rw [(p_cI hc).2, p_b1, if_neg (by decide), show s_M_in (nI 0) 0 1 = some 1 from p_inI (N := 1) (by omega) (by omega), p_b1, if_neg (by decide), if_neg (by decide)]
          exact eM
      · subst e
        have dX : s_X_wall (nI c) (nI 1) cell count walls E = (if fd (fun t => decide (cell t = nI c)) n 0 < 0 then s_X_wall_c47 (nI c) (nI 1) walls E else j_b2 (s_X_error (nI 3) E) (fun r7 u8_errors => some (r7, walls, u8_errors))) := by
          unfold s_X_wall
          rw [(p_cI hc).1, p_b1, if_neg (by decide), if_neg (by decide), if_pos (by decide), if_pos (by decide), h1, p_tin _ _ hn, p_b1]
          rfl
        have dM : s_M_wall (nI c) (nI 1) R E2 = (if fd (fun t => decide (cell t = nI c)) n 0 < 0 then s_M_wall_c45 (nI c) (nI 1) R E2 else j_b2 (s_M_error (eL 3) E2) (fun r8 u9_errors => some (r8, R, u9_errors))) := by
          unfold s_M_wall
          rw [(p_cI hc).2, p_b1, if_neg (by decide), show s_M_in (nI 1) 0 1 = some 1 from p_inI (N := 1) (by omega) (by omega), p_b1, if_neg (by decide), if_pos (by decide), p_min _ _ hn h2, p_b1, p_fdEq h]
          rfl
        rw [dX, dM]
        rcases p_fdC h hc with ⟨f1, f2⟩ | ⟨t, f1, f2, f3⟩
        · rw [f1, if_pos (by decide), if_pos (by decide)]
          exact ⟨_, _, _, _, _, eX, eM, done (fun _ => f2), hE, frT_upd (by omega)⟩
        · rw [f3, if_neg (p_nlt0 (by omega)), if_neg (p_nlt0 (by omega)), y1, p_b2, y2, p_b2]
          exact ⟨_, _, _, _, _, rfl, rfl, hT, y3, frT_rf⟩
