/-! pure 4: how a thing falls -/
def kp (R R' : Nat → Int32) : Prop := ∀ j, (∀ t, t < 6 → j ≠ 43 + 5 * t) → R' j = R j
theorem kp_rf {R : Nat → Int32} : kp R R := fun _ _ => rfl
theorem kp_tr {R R1 R2 : Nat → Int32} (h1 : kp R R1) (h2 : kp R1 R2) : kp R R2 := fun j hj => (h2 j hj).trans (h1 j hj)
/-- one step of both programs at a thing: they answer alike, and what lies lies alike -/
def StF (n : Nat) (K M : Nat → Nat) (kind m : Nat → Int32) (count : Int32) (walls : Int64) (R : Nat → Int32) (x : Option (Int32 × (Nat → Int32) × Int64)) (y : Option (Int32 × (Nat → Int32))) (k : Nat) (C' : Nat → Nat) (cell' : Nat → Int32) (tk' : Int64) (R' : Nat → Int32) : Prop :=
  k ≤ 36 ∧ x = some (nI k, cell', tk') ∧ y = some (nI k, R') ∧ ThR n K M C' kind m cell' count tk' walls R' ∧ kp R R'
theorem r_slide2 {n : Nat} {K M C : Nat → Nat} {kind m cell : Nat → Int32} {count : Int32} {taken walls : Int64} {R : Nat → Int32} (h : ThR n K M C kind m cell count taken walls R) {t w mo mo' : Nat} (ht : t < n) (hw : w < 4) (hmo : mo ≤ 36) (hmo' : mo' ≤ 36) (he : mo = mo' ∨ (mo = 6 ∧ mo' = 36)) :
    ∃ k C' cell' tk' R', k ≤ mo ∧ StF n K M kind m count walls R (s_Things_slide (nI t) (nI w) (nI mo) walls cell count taken) (s_M_slides (nI t) (nI w) (nI mo') R) k C' cell' tk' R' := by
  obtain ⟨k, c, tk, h1, h1', h2, h3, h4⟩ := r_slide h ht hw hmo hmo' he
  exact ⟨k, _, _, tk, _, h1', h1, h2, h3, h4, fun j hj => pk_un (hj t (by have := h.1; omega))⟩
theorem p_turned : ∀ w, w < 4 → ∀ q, q < 3 → s_Grid_turned (nI w) (nI q) = some (nI ((w + q) % 4)) := by decide +kernel
theorem p_rem4 {a : Nat} (ha : a < 2 ^ 31) : nI a - nI a / (4 : Int32) * (4 : Int32) = nI (a % 4) := pk_rem (d := 4) ha (by decide) (by decide)
theorem p_rem2 {a : Nat} (ha : a < 2 ^ 31) : nI a - nI a / (2 : Int32) * (2 : Int32) = nI (a % 2) := pk_rem (d := 2) ha (by decide) (by decide)
theorem r_roll {n : Nat} {K M C : Nat → Nat} {kind m cell : Nat → Int32} {count : Int32} {taken walls : Int64} {R : Nat → Int32} (h : ThR n K M C kind m cell count taken walls R) {t w : Nat} (ht : t < n) (hw : w < 4) :
    ∃ k C' cell' tk' R', StF n K M kind m count walls R (s_Things_roll (nI t) (nI w) walls cell count taken) (s_M_rolls (nI t) (nI w) R) k C' cell' tk' R' := by
  obtain ⟨k, C1, cell1, tk1, R1, -, a1, a2, a3, a4, a5⟩ := r_slide2 h ht hw (mo := 6) (mo' := 36) (by omega) (by omega) (Or.inr ⟨rfl, rfl⟩)
  obtain ⟨k2, C2, cell2, tk2, R2, -, b1, b2, b3, b4, b5⟩ := r_slide2 a4 ht (w := (w + 1) % 4) (Nat.mod_lt _ (by decide)) (mo := 1) (mo' := 1) (by omega) (by omega) (Or.inl rfl)
  refine ⟨k, C2, cell2, tk2, R2, a1, ?_, ?_, b4, kp_tr a5 b5⟩
  · unfold s_Things_roll
    rw [p_lit 6, a2, p_b3, p_lit 1, p_turned w hw 1 (by omega), p_b1, b2, p_b3]
  · unfold s_M_rolls
    rw [p_lit 36, a3, p_b2, p_lit 1, nI_add, p_rem4 (by omega), b3, p_b2]
theorem r_fall {n : Nat} {K M C : Nat → Nat} {kind m cell : Nat → Int32} {count : Int32} {taken walls : Int64} {R : Nat → Int32} (h : ThR n K M C kind m cell count taken walls R) {t w : Nat} (ht : t < n) (hw : w < 4) :
    ∃ k C' cell' tk' R', StF n K M kind m count walls R (s_Things_fall (nI t) (nI w) walls kind m cell count taken) (s_M_falls (nI t) (nI w) R) k C' cell' tk' R' := by
  obtain ⟨hn, h1, h2, h3, h4, h5, h6, h7, h8, h9⟩ := id h
  obtain ⟨hk1, hk2, hk3⟩ := h3 t ht
  obtain ⟨hm1, hm2, hm3⟩ := h4 t ht
  have far := r_slide2 h ht hw (mo := 6) (mo' := 36) (by omega) (by omega) (Or.inr ⟨rfl, rfl⟩)
  have eC : s_Things_fall (nI t) (nI w) walls kind m cell count taken = (if kind t = (1 : Int32) then (j_b3 (s_Things_roll (nI t) (nI w) walls cell count taken) (fun r2 u3_cell u4_taken => some (r2, u3_cell, u4_taken)))
      else if kind t = (2 : Int32) then (if nI w = nI (M t % 4) then (some ((0 : Int32), cell, taken)) else (j_b3 (s_Things_slide (nI t) (nI w) (nI 6) walls cell count taken) (fun r5 u6_cell u7_taken => some (r5, u6_cell, u7_taken))))
      else if kind t = (3 : Int32) then (j_b3 (s_Things_walk (nI t) (nI w) walls cell count taken) (fun r8 u9_cell u10_taken => some (r8, u9_cell, u10_taken)))
      else if kind t = (4 : Int32) then (j_b3 (s_Things_roll (nI t) (nI w) walls cell count taken) (fun r11 u12_cell u13_taken => j_b3 (s_Things_roll (nI t) (nI w) walls u12_cell count u13_taken) (fun r14 u15_cell u16_taken => some ((if r11 < r14 then r14 else r11), u15_cell, u16_taken))))
      else if kind t = (5 : Int32) then (if nI (M t % 2) = (1 : Int32) then (some ((0 : Int32), cell, taken)) else (if nI w = nI (M t % 4) then (some ((0 : Int32), cell, taken)) else (j_b3 (s_Things_slide (nI t) (nI w) (nI 6) walls cell count taken) (fun r17 u18_cell u19_taken => some (r17, u18_cell, u19_taken)))))
      else if kind t = (6 : Int32) then (j_b3 (s_Things_slide (nI t) (nI ((w + 2) % 4)) (nI 6) walls cell count taken) (fun r21 u22_cell u23_taken => some (r21, u22_cell, u23_taken)))
      else (j_b3 (s_Things_slide (nI t) (nI w) (nI 6) walls cell count taken) (fun r24 u25_cell u26_taken => some (r24, u25_cell, u26_taken)))) := by
    unfold s_Things_fall
    rw [h1, p_has ht hn, p_b1, if_neg (by decide), p_chk (by omega) (by omega), nI_clamp (by omega), p_chk (by omega) (by omega), hm1, p_rem4 (by omega), p_rem2 (by omega), p_chk (by omega) (by omega), show (2 : Int32) = nI 2 from rfl, p_turned w hw 2 (by omega), p_b1]
    rfl
  have eM : s_M_falls (nI t) (nI w) R = (if nI (K t) = (1 : Int32) then (j_b2 (s_M_rolls (nI t) (nI w) R) (fun r3 u4_row => some (r3, u4_row)))
      else if nI (K t) = (2 : Int32) then (if nI w = nI (M t % 4) then (some ((0 : Int32), R)) else (j_b2 (s_M_slides (nI t) (nI w) (nI 36) R) (fun r5 u6_row => some (r5, u6_row))))
      else if nI (K t) = (3 : Int32) then (j_b2 (s_M_slides (nI t) (nI w) (nI 1) R) (fun r7 u8_row => if r7 = (1 : Int32) then (some ((1 : Int32), u8_row)) else (j_b2 (s_M_slides (nI t) (nI ((w + 1) % 4)) (nI 1) u8_row) (fun r9 u10_row => some ((0 : Int32), u10_row)))))
      else if nI (K t) = (4 : Int32) then (j_b2 (s_M_rolls (nI t) (nI w) R) (fun r11 u12_row => j_b2 (s_M_rolls (nI t) (nI w) u12_row) (fun r13 u14_row => if r11 ≤ r13 then (some (r13, u14_row)) else (some (r11, u14_row)))))
      else if nI (K t) = (5 : Int32) then (if nI (M t % 2) = (1 : Int32) then (some ((0 : Int32), R)) else (if nI w = nI (M t % 4) then (some ((0 : Int32), R)) else (j_b2 (s_M_slides (nI t) (nI w) (nI 36) R) (fun r15 u16_row => some (r15, u16_row)))))
      else if nI (K t) = (6 : Int32) then (j_b2 (s_M_slides (nI t) (nI ((w + 2) % 4)) (nI 36) R) (fun r17 u18_row => some (r17, u18_row)))
      else (j_b2 (s_M_slides (nI t) (nI w) (nI 36) R) (fun r19 u20_row => some (r19, u20_row)))) := by
    unfold s_M_falls
    have a1 : s_M_of (nI t) (1 : Int32) R = some (nI (M t)) := by rw [p_lit 1, p_of (by omega) (by omega), show 41 + 5 * t + 1 = 42 + 5 * t by omega, hm3]
    have a0 : s_M_of (nI t) (0 : Int32) R = some (nI (K t)) := by rw [p_lit 0, p_of (by omega) (by omega), Nat.add_zero, hk3]
    have b1 : (nI w + (1 : Int32)) - (nI w + (1 : Int32)) / (4 : Int32) * (4 : Int32) = nI ((w + 1) % 4) := by rw [p_lit 1, nI_add, p_rem4 (by omega)]
    have b2 : (nI w + (2 : Int32)) - (nI w + (2 : Int32)) / (4 : Int32) * (4 : Int32) = nI ((w + 2) % 4) := by rw [show (2 : Int32) = nI 2 from rfl, nI_add, p_rem4 (by omega)]
    rw [a1, p_b1, a0, p_b1, b1, b2, p_rem4 (by omega), p_rem2 (by omega)]
    rfl
  rw [eC, eM, hk1]
  have fin0 : ∀ (_ : True), ∃ k C' cell' tk' R', StF n K M kind m count walls R (some ((0 : Int32), cell, taken)) (some ((0 : Int32), R)) k C' cell' tk' R' := fun _ => ⟨0, C, cell, taken, R, by omega, rfl, rfl, h, kp_rf⟩
  have finF : ∃ k C' cell' tk' R', StF n K M kind m count walls R (j_b3 (s_Things_slide (nI t) (nI w) (nI 6) walls cell count taken) (fun r5 u6_cell u7_taken => some (r5, u6_cell, u7_taken))) (j_b2 (s_M_slides (nI t) (nI w) (nI 36) R) (fun r5 u6_row => some (r5, u6_row))) k C' cell' tk' R' := by
    obtain ⟨k, C1, cell1, tk1, R1, -, a1, a2, a3, a4, a5⟩ := far
    exact ⟨k, C1, cell1, tk1, R1, a1, by rw [a2]; rfl, by rw [a3]; rfl, a4, a5⟩
  rcases (show K t = 0 ∨ K t = 1 ∨ K t = 2 ∨ K t = 3 ∨ K t = 4 ∨ K t = 5 ∨ K t = 6 by omega) with e | e | e | e | e | e | e <;> rw [e]
  · rw [if_neg (show ¬ nI 0 = (1 : Int32) by decide), if_neg (show ¬ nI 0 = (1 : Int32) by decide), if_neg (show ¬ nI 0 = (2 : Int32) by decide), if_neg (show ¬ nI 0 = (2 : Int32) by decide), if_neg (show ¬ nI 0 = (3 : Int32) by decide), if_neg (show ¬ nI 0 = (3 : Int32) by decide), if_neg (show ¬ nI 0 = (4 : Int32) by decide), if_neg (show ¬ nI 0 = (4 : Int32) by decide), if_neg (show ¬ nI 0 = (5 : Int32) by decide), if_neg (show ¬ nI 0 = (5 : Int32) by decide), if_neg (show ¬ nI 0 = (6 : Int32) by decide), if_neg (show ¬ nI 0 = (6 : Int32) by decide)]
    exact finF
  · rw [if_pos (show nI 1 = (1 : Int32) from rfl), if_pos (show nI 1 = (1 : Int32) from rfl)]
    obtain ⟨k, C1, cell1, tk1, R1, a1, a2, a3, a4, a5⟩ := r_roll h ht hw
    exact ⟨k, C1, cell1, tk1, R1, a1, by rw [a2]; rfl, by rw [a3]; rfl, a4, a5⟩
  · rw [if_neg (show ¬ nI 2 = (1 : Int32) by decide), if_neg (show ¬ nI 2 = (1 : Int32) by decide), if_pos (show nI 2 = (2 : Int32) from rfl), if_pos (show nI 2 = (2 : Int32) from rfl)]
    by_cases q : nI w = nI (M t % 4)
    · rw [if_pos q, if_pos q]; exact fin0 trivial
    · rw [if_neg q, if_neg q]; exact finF
  · rw [if_neg (show ¬ nI 3 = (1 : Int32) by decide), if_neg (show ¬ nI 3 = (1 : Int32) by decide), if_neg (show ¬ nI 3 = (2 : Int32) by decide), if_neg (show ¬ nI 3 = (2 : Int32) by decide), if_pos (show nI 3 = (3 : Int32) from rfl), if_pos (show nI 3 = (3 : Int32) from rfl)]
    obtain ⟨k, C1, cell1, tk1, R1, a0, a1, a2, a3, a4, a5⟩ := r_slide2 h ht hw (mo := 1) (mo' := 1) (by omega) (by omega) (Or.inl rfl)
    obtain ⟨k2, C2, cell2, tk2, R2, -, b1, b2, b3, b4, b5⟩ := r_slide2 a4 ht (w := (w + 1) % 4) (Nat.mod_lt _ (by decide)) (mo := 1) (mo' := 1) (by omega) (by omega) (Or.inl rfl)
    rcases (show k = 0 ∨ k = 1 by omega) with e | e
    · subst e
      refine ⟨0, C2, cell2, tk2, R2, a1, ?_, ?_, b4, kp_tr a5 b5⟩
      · unfold s_Things_walk
        rw [p_lit 1, a2, p_b3, if_pos (by decide), p_turned w hw 1 (by omega), p_b1, b2, p_b3, p_b3]
      · rw [a3, p_b2, if_neg (by decide), b3, p_b2]; rfl
    · subst e
      refine ⟨1, C1, cell1, tk1, R1, a1, ?_, ?_, a4, a5⟩
      · unfold s_Things_walk
        rw [p_lit 1, a2, p_b3, if_neg (by decide), p_b3]
      · rw [a3, p_b2, if_pos (by decide)]; rfl
  · rw [if_neg (show ¬ nI 4 = (1 : Int32) by decide), if_neg (show ¬ nI 4 = (1 : Int32) by decide), if_neg (show ¬ nI 4 = (2 : Int32) by decide), if_neg (show ¬ nI 4 = (2 : Int32) by decide), if_neg (show ¬ nI 4 = (3 : Int32) by decide), if_neg (show ¬ nI 4 = (3 : Int32) by decide), if_pos (show nI 4 = (4 : Int32) from rfl), if_pos (show nI 4 = (4 : Int32) from rfl)]
    obtain ⟨k, C1, cell1, tk1, R1, a1, a2, a3, a4, a5⟩ := r_roll h ht hw
    obtain ⟨k2, C2, cell2, tk2, R2, b1, b2, b3, b4, b5⟩ := r_roll a4 ht hw
    refine ⟨if nI k < nI k2 then k2 else k, C2, cell2, tk2, R2, ?_, ?_, ?_, b4, kp_tr a5 b5⟩
    · by_cases q : nI k < nI k2
      · rw [if_pos q]; exact b1
      · rw [if_neg q]; exact a1
    · rw [a2, p_b3, b2, p_b3]
      by_cases q : nI k < nI k2
      · rw [if_pos q, if_pos q]
      · rw [if_neg q, if_neg q]
    · rw [a3, p_b2, b3, p_b2]
      by_cases q : nI k < nI k2
      · rw [if_pos q]
        rw [nI_ltI (by omega) (by omega)] at q
        rw [if_pos (nI_le (by omega) (by omega))]
      · rw [if_neg q]
        rw [nI_ltI (by omega) (by omega)] at q
        by_cases q2 : nI k ≤ nI k2
        · rw [if_pos q2]
          rw [nI_leI (by omega) (by omega)] at q2
          rw [show k2 = k by omega]
        · rw [if_neg q2]
  · rw [if_neg (show ¬ nI 5 = (1 : Int32) by decide), if_neg (show ¬ nI 5 = (1 : Int32) by decide), if_neg (show ¬ nI 5 = (2 : Int32) by decide), if_neg (show ¬ nI 5 = (2 : Int32) by decide), if_neg (show ¬ nI 5 = (3 : Int32) by decide), if_neg (show ¬ nI 5 = (3 : Int32) by decide), if_neg (show ¬ nI 5 = (4 : Int32) by decide), if_neg (show ¬ nI 5 = (4 : Int32) by decide), if_pos (show nI 5 = (5 : Int32) from rfl), if_pos (show nI 5 = (5 : Int32) from rfl)]
    by_cases q1 : nI (M t % 2) = (1 : Int32)
    · rw [if_pos q1, if_pos q1]; exact fin0 trivial
    · rw [if_neg q1, if_neg q1]
      by_cases q : nI w = nI (M t % 4)
      · rw [if_pos q, if_pos q]; exact fin0 trivial
      · rw [if_neg q, if_neg q]; exact finF
  · rw [if_neg (show ¬ nI 6 = (1 : Int32) by decide), if_neg (show ¬ nI 6 = (1 : Int32) by decide), if_neg (show ¬ nI 6 = (2 : Int32) by decide), if_neg (show ¬ nI 6 = (2 : Int32) by decide), if_neg (show ¬ nI 6 = (3 : Int32) by decide), if_neg (show ¬ nI 6 = (3 : Int32) by decide), if_neg (show ¬ nI 6 = (4 : Int32) by decide), if_neg (show ¬ nI 6 = (4 : Int32) by decide), if_neg (show ¬ nI 6 = (5 : Int32) by decide), if_neg (show ¬ nI 6 = (5 : Int32) by decide), if_pos (show nI 6 = (6 : Int32) from rfl), if_pos (show nI 6 = (6 : Int32) from rfl)]
    obtain ⟨k, C1, cell1, tk1, R1, -, a1, a2, a3, a4, a5⟩ := r_slide2 h ht (w := (w + 2) % 4) (Nat.mod_lt _ (by decide)) (mo := 6) (mo' := 36) (by omega) (by omega) (Or.inr ⟨rfl, rfl⟩)
    exact ⟨k, C1, cell1, tk1, R1, a1, by rw [a2]; rfl, by rw [a3]; rfl, a4, a5⟩
