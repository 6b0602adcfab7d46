/-! pure 11: thing, as, clock, seed, told -/
def undr (k q : Nat) : Prop := q = 0 ∨ q = k ∨ (q = 1 ∧ k = 4) ∨ (q = 2 ∧ k = 5)
theorem p_isUnder : ∀ k, k < 7 → ∀ q, q < 7 → s_Kinds_isUnder (nI k) (nI q) = some (if q = 0 ∨ q = k ∨ (q = 1 ∧ k = 4) ∨ (q = 2 ∧ k = 5) then 1 else 0) := by decide +kernel
theorem p_kO {x : Int32} (h : x < 0 ∨ nI 7 ≤ x) : s_Kinds_isKind x = some 0 := by
  unfold s_Kinds_isKind
  rcases h with h | h
  · rw [if_pos h]
  · by_cases c : x < 0
    · rw [if_pos c]
    · rw [if_neg c, if_pos (show (7 : Int32) ≤ x from h)]
theorem p_kI {k : Nat} (h : k < 7) : s_Kinds_isKind (nI k) = some 1 := by
  unfold s_Kinds_isKind
  rw [if_neg (p_nlt0 (by omega)), if_neg (show ¬ (7 : Int32) ≤ nI k from nI_ge (b := 7) (by omega) (by omega))]
theorem q_as {kind m cell broken fell : Nat → Int32} {count : Int32} {taken walls : Int64} {R E E2 : Nat → Int32} (hT : RTh kind m cell broken fell count taken walls R) (hE : ErR E E2) (a b : Int32) :
    ∃ r E' E2', s_X_as a b kind m count E = some (r, E') ∧ s_M_as a b R E2 = some (r, E2') ∧ ErR E' E2' := by
  obtain ⟨n, K, M, C, h, hb, hf, hu⟩ := id hT
  obtain ⟨hn, h1, h2, h3, h4, h5, h6, h7, h8, h9⟩ := id h
  obtain ⟨E1, F1, x1, x2, x3⟩ := p_err hE (k := 1) (by omega)
  obtain ⟨E5, F5, y1, y2, y3⟩ := p_err hE (k := 5) (by omega)
  rcases p_ix a n (by omega) with ho | ⟨t, ht, rfl⟩
  · refine ⟨eL 1, E1, F1, ?_, ?_, x3⟩
    · unfold s_X_as s_X_as_c21
      rw [h1, p_hO ho, p_b1, if_pos rfl, show (1 : Int32) = nI 1 from rfl, x1, p_b2]
    · unfold s_M_as s_M_as_c18
      rw [p_thO hn h2 ho, p_b1, if_pos rfl, show (-1000000001 : Int32) = eL 1 from by decide, x2, p_b2]
  · rcases p_ix b 7 (by omega) with ho | ⟨q, hq, rfl⟩
    · refine ⟨eL 1, E1, F1, ?_, ?_, x3⟩
      · unfold s_X_as s_X_as_c21
        rw [h1, p_has ht hn, p_b1, if_neg (by decide), p_kO ho, p_b1, if_pos rfl, show (1 : Int32) = nI 1 from rfl, x1, p_b2]
      · unfold s_M_as s_M_as_c18
        rw [p_thI hn h2 ht, p_b1, if_neg (by decide), show s_M_in b 0 6 = some 0 from p_inO (N := 6) (by omega) ho, p_b1, if_pos rfl, show (-1000000001 : Int32) = eL 1 from by decide, x2, p_b2]
    · obtain ⟨hk1, hk2, hk3⟩ := h3 t ht
      have eX : s_X_as (nI t) (nI q) kind m count E = (if (if q = 0 ∨ q = K t ∨ (q = 1 ∧ K t = 4) ∨ (q = 2 ∧ K t = 5) then (1 : Int32) else 0) = 0 then j_b2 (s_X_error (nI 5) E) (fun r6 u7_errors => some (r6, u7_errors)) else some (nI (M t), E)) := by
        unfold s_X_as
        rw [h1, p_has ht hn, p_b1, if_neg (by decide), p_kI hq, p_b1, if_neg (by decide), p_chk (by omega) (by omega), nI_clamp (by omega), hk1, p_isUnder _ hk2 _ hq, p_b1, p_chk (by omega) (by omega), (h4 t ht).1]
        rfl
      have em : s_M_of (nI t) (1 : Int32) R = some (nI (M t)) := by
        rw [show (1 : Int32) = nI 1 from rfl, p_of (by omega) (by omega), show 41 + 5 * t + 1 = 42 + 5 * t by omega, (h4 t ht).2.2]
      have c61 : s_M_as_c61 (nI t) R E2 = some (nI (M t), E2) := by
        unfold s_M_as_c61 s_M_as_c66
        rw [if_neg (by decide), em, p_b1]
      have c65 : s_M_as_c65 (nI t) R E2 = some (eL 5, F5) := by
        unfold s_M_as_c65 s_M_as_c66
        rw [if_pos rfl, show (-1000000005 : Int32) = eL 5 from by decide, y2, p_b2]
      have eM : s_M_as (nI t) (nI q) R E2 = (if q = 0 ∨ q = K t ∨ (q = 1 ∧ K t = 4) ∨ (q = 2 ∧ K t = 5) then s_M_as_c61 (nI t) R E2 else s_M_as_c65 (nI t) R E2) := by
        unfold s_M_as s_M_as_c51
        rw [p_thI hn h2 ht, p_b1, if_neg (by decide), show s_M_in (nI q) 0 6 = some 1 from p_inI (N := 6) (by omega) (by omega), p_b1, if_neg (by decide), show (0 : Int32) = nI 0 from rfl, p_of (by omega) (by omega), Nat.add_zero, hk3, p_b1]
        generalize s_M_as_c61 (nI t) R E2 = u
        generalize s_M_as_c65 (nI t) R E2 = w
        generalize K t = k at hk2
        rcases (show q = 0 ∨ q = 1 ∨ q = 2 ∨ q = 3 ∨ q = 4 ∨ q = 5 ∨ q = 6 by omega) with e | e | e | e | e | e | e <;> subst e <;> rcases (show k = 0 ∨ k = 1 ∨ k = 2 ∨ k = 3 ∨ k = 4 ∨ k = 5 ∨ k = 6 by omega) with e | e | e | e | e | e | e <;> subst e <;> rfl
      rw [eX, eM, c61, c65]
      by_cases z : q = 0 ∨ q = K t ∨ (q = 1 ∧ K t = 4) ∨ (q = 2 ∧ K t = 5)
      · rw [if_pos z, if_pos z, if_neg (by decide)]
        exact ⟨_, _, _, rfl, rfl, hE⟩
      · rw [if_neg z, if_neg z, if_pos rfl, y1, p_b2]
        exact ⟨_, _, _, rfl, rfl, y3⟩
theorem q_thing {kind m cell broken fell : Nat → Int32} {count : Int32} {taken walls : Int64} {R E E2 : Nat → Int32} (hT : RTh kind m cell broken fell count taken walls R) (hE : ErR E E2) (a b : Int32) :
    ∃ r kind' m' cell' broken' fell' count' taken' E' R' E2', s_X_thing a b kind m cell broken fell count taken walls E = some (r, kind', m', cell', broken', fell', count', taken', E') ∧ s_M_thing a b R E2 = some (r, R', E2') ∧ RTh kind' m' cell' broken' fell' count' taken' walls R' ∧ ErR E' E2' ∧ frT R R' := by
  obtain ⟨n, K, M, C, h, hb, hf, hu⟩ := id hT
  obtain ⟨hn, h1, h2, h3, h4, h5, h6, h7, h8, h9⟩ := id h
  obtain ⟨E1, F1, x1, x2, x3⟩ := p_err hE (k := 1) (by omega)
  obtain ⟨E3, F3, y1, y2, y3⟩ := p_err hE (k := 3) (by omega)
  obtain ⟨E4, F4, z1, z2, z3⟩ := p_err hE (k := 4) (by omega)
  rcases p_ix a 70 (by omega) with ho | ⟨k, hk, rfl⟩
  · refine ⟨eL 1, kind, m, cell, broken, fell, count, taken, E1, R, F1, ?_, ?_, hT, x3, frT_rf⟩
    · unfold s_X_thing s_X_thing_c14
      rw [(p_km ho).1, p_b1, if_pos rfl, show (1 : Int32) = nI 1 from rfl, x1, p_b2]
    · unfold s_M_thing s_M_thing_c14
      rw [(p_km ho).2, p_b1, if_pos rfl, show (-1000000001 : Int32) = eL 1 from by decide, x2, p_b2]
  · rcases p_ix b 36 (by omega) with ho | ⟨c, hc, rfl⟩
    · refine ⟨eL 1, kind, m, cell, broken, fell, count, taken, E1, R, F1, ?_, ?_, hT, x3, frT_rf⟩
      · unfold s_X_thing s_X_thing_c14
        rw [(p_kmI hk).1, p_b1, if_neg (by decide), (p_cO ho).1, p_b1, if_pos rfl, show (1 : Int32) = nI 1 from rfl, x1, p_b2]
      · unfold s_M_thing s_M_thing_c14
        rw [(p_kmI hk).2, p_b1, if_neg (by decide), (p_cO ho).2, p_b1, if_pos rfl, show (-1000000001 : Int32) = eL 1 from by decide, x2, p_b2]
    · have r2 : (2 : Int32).toNatClampNeg = 2 := rfl
      by_cases hn6 : n = 6
      · refine ⟨eL 4, kind, m, cell, broken, fell, count, taken, E4, R, F4, ?_, ?_, hT, z3, frT_rf⟩
        · unfold s_X_thing s_Things_isFull
          rw [(p_kmI hk).1, p_b1, if_neg (by decide), (p_cI hc).1, p_b1, if_neg (by decide), h1, hn6, if_neg (show ¬ nI 6 < (6 : Int32) by decide), p_b1, if_neg (by decide), show (4 : Int32) = nI 4 from rfl, z1, p_b2]
        · unfold s_M_thing
          rw [(p_kmI hk).2, p_b1, if_neg (by decide), (p_cI hc).2, p_b1, if_neg (by decide), r2, h2, hn6, if_pos (show nI 6 = (6 : Int32) from rfl), show (-1000000004 : Int32) = eL 4 from by decide, z2, p_b2]
      · have hlt : nI n < (6 : Int32) := nI_lt (b := 6) (by omega) (by omega)
        have hne : ¬ nI n = (6 : Int32) := fun z => hn6 ((nI_eq (b := 6) (by omega) (by omega)).mp z)
        have hX : s_X_thing (nI k) (nI c) kind m cell broken fell count taken walls E = (if (if bL walls c = true then (1 : Int32) else 0) = 1 then s_X_thing_c65 kind m cell broken fell count taken E else (if fd (fun t => decide (cell t = nI c)) n 0 < 0 then j_b8 (s_Things_add (nI k) (nI c) kind m cell broken fell count taken) (fun r10 u11_kind u12_m u13_cell u14_broken u15_fell u16_count u17_taken => some (r10, u11_kind, u12_m, u13_cell, u14_broken, u15_fell, u16_count, u17_taken, E)) else s_X_thing_c65 kind m cell broken fell count taken E)) := by
          unfold s_X_thing s_Things_isFull
          rw [(p_kmI hk).1, p_b1, if_neg (by decide), (p_cI hc).1, p_b1, if_neg (by decide), h1, if_pos hlt, p_b1, if_pos rfl, p_wallAt (by omega), p_b1, p_tin _ _ hn, p_b1]
        have eF : s_M_isFree (nI c) R = some (if (bL walls c = false ∧ ∀ u, u < n → C u ≠ c) then 1 else 0) := by
          unfold s_M_isFree
          rw [p_isWall hc, h9 c hc, p_b1]
          cases w : bL walls c with
          | true => rw [if_pos rfl, if_pos rfl, if_neg (by decide), if_neg (fun z => nomatch z.1)]
          | false =>
            rw [if_pos (show (if (if false = true then (1 : Int32) else 0) = 1 then (1 : Int32) else 0) = 0 from rfl), p_min _ _ hn h2, p_b1, p_fdEq h]
            rcases p_fdC h hc with ⟨f1, f2⟩ | ⟨t, f1, f2, f3⟩
            · rw [f1, if_neg (by decide), if_pos ⟨rfl, f2⟩]
            · rw [f3, if_pos (nI_pos' (by omega)), if_neg (fun z => z.2 t f1 f2)]
        have eF1 : (bL walls c = false ∧ ∀ u, u < n → C u ≠ c) → s_M_isFree (nI c) R = some 1 := fun z => by rw [eF, if_pos z]
        have eF0 : ¬ (bL walls c = false ∧ ∀ u, u < n → C u ≠ c) → s_M_isFree (nI c) R = some 0 := fun z => by rw [eF, if_neg z]
        have errX : s_X_thing_c65 kind m cell broken fell count taken E = some (eL 3, kind, m, cell, broken, fell, count, taken, E3) := by
          unfold s_X_thing_c65
          rw [show (3 : Int32) = nI 3 from rfl, y1, p_b2]
        by_cases w : bL walls c = true
        · refine ⟨eL 3, kind, m, cell, broken, fell, count, taken, E3, R, F3, ?_, ?_, hT, y3, frT_rf⟩
          · rw [hX, if_pos w, if_pos rfl, errX]
          · unfold s_M_thing
            rw [(p_kmI hk).2, p_b1, if_neg (by decide), (p_cI hc).2, p_b1, if_neg (by decide), r2, h2, if_neg hne, eF0 (fun z => by rw [w] at z; cases z.1), p_b1, if_pos rfl, show (-1000000003 : Int32) = eL 3 from by decide, y2, p_b2]
        · rcases p_fdC h hc with ⟨f1, f2⟩ | ⟨t, f1, f2, f3⟩
          · have w0 : bL walls c = false := by simpa using w
            refine ⟨nI n, upd kind n (nI (k / 10)), upd m n (nI (k % 10)), upd cell n (nI c), upd broken n 0, upd fell n 0, nI (n + 1), taken ||| (j_lshl (1 : Int64) (nI c)), E, upd (upd (upd (upd (upd (upd R 2 (nI (n + 1))) (41 + 5 * n) (nI (k / 10))) (42 + 5 * n) (nI (k % 10))) (43 + 5 * n) (nI c)) (44 + 5 * n) 0) (45 + 5 * n) 0, E2, ?_, ?_, ?_, hE, ?_⟩
            · rw [hX, if_neg w, if_neg (by decide), f1, if_pos (by decide)]
              unfold s_Things_add s_Things_isFull s_Things_setKind
              rw [h1, if_pos hlt, p_b1, if_pos rfl, nI_1, p_has (Nat.lt_succ_self n) (by omega), p_b1, if_neg (by decide), p_chk (by omega) (by omega), p_chk (by omega) (by omega), nI_clamp (by omega), (p_div10 hk).2, (p_div10 hk).1, p_b2, p_chk (by omega) (by omega), p_chk (by omega) (by omega), p_chk (by omega) (by omega), p_b8]
            · unfold s_M_thing
              rw [(p_kmI hk).2, p_b1, if_neg (by decide), (p_cI hc).2, p_b1, if_neg (by decide), r2, h2, if_neg hne, eF1 ⟨w0, f2⟩, p_b1, if_neg (by decide), nI_1, (p_div10 hk).2, (p_div10 hk).1]
              rw [show s_M_lay (nI n) (0 : Int32) (nI (k / 10)) (upd R 2 (nI (n + 1))) = some (upd (upd R 2 (nI (n + 1))) (41 + 5 * n) (nI (k / 10))) from p_lay (w := 0) _ (by omega) (by omega), p_b1]
              rw [show ∀ X, s_M_lay (nI n) (1 : Int32) (nI (k % 10)) X = some (upd X (42 + 5 * n) (nI (k % 10))) from fun X => by rw [show (1 : Int32) = nI 1 from rfl, p_lay _ (by omega) (by omega), show 41 + 5 * n + 1 = 42 + 5 * n by omega], p_b1]
              rw [show ∀ X, s_M_lay (nI n) (2 : Int32) (nI c) X = some (upd X (43 + 5 * n) (nI c)) from fun X => by rw [show (2 : Int32) = nI 2 from rfl, p_lay _ (by omega) (by omega), show 41 + 5 * n + 2 = 43 + 5 * n by omega], p_b1]
              rw [show ∀ X, s_M_lay (nI n) (3 : Int32) (0 : Int32) X = some (upd X (44 + 5 * n) 0) from fun X => by rw [show (3 : Int32) = nI 3 from rfl, p_lay _ (by omega) (by omega), show 41 + 5 * n + 3 = 44 + 5 * n by omega], p_b1]
              rw [show ∀ X, s_M_lay (nI n) (4 : Int32) (0 : Int32) X = some (upd X (45 + 5 * n) 0) from fun X => by rw [show (4 : Int32) = nI 4 from rfl, p_lay _ (by omega) (by omega), show 41 + 5 * n + 4 = 45 + 5 * n by omega], p_b1]
            · refine ⟨n + 1, fun u => if u = n then k / 10 else K u, fun u => if u = n then k % 10 else M u, fun u => if u = n then c else C u, ⟨by omega, rfl, ?_, fun u hu2 => ?_, fun u hu2 => ?_, fun u hu2 => ?_, fun u v hu2 hv2 e => ?_, fun u hu2 => ?_, fun d hd => ?_, fun d hd => ?_⟩, fun u hu2 => ?_, fun u hu2 => ?_, hu⟩
              · rw [pk_un (by omega), pk_un (by omega), pk_un (by omega), pk_un (by omega), pk_un (by omega), pk_us]
              · by_cases q : u = n
                · subst q
                  simp only [if_true]
                  rw [pk_us, pk_un (by omega), pk_un (by omega), pk_un (by omega), pk_un (by omega), pk_us]
                  exact ⟨rfl, by omega, rfl⟩
                · simp only [if_neg q]
                  rw [pk_un q, pk_un (by omega), pk_un (by omega), pk_un (by omega), pk_un (by omega), pk_un (by omega), pk_un (by omega)]
                  exact h3 u (by omega)
              · by_cases q : u = n
                · subst q
                  simp only [if_true]
                  rw [pk_us, pk_un (by omega), pk_un (by omega), pk_un (by omega), pk_us]
                  exact ⟨rfl, by omega, rfl⟩
                · simp only [if_neg q]
                  rw [pk_un q, pk_un (by omega), pk_un (by omega), pk_un (by omega), pk_un (by omega), pk_un (by omega), pk_un (by omega)]
                  exact h4 u (by omega)
              · by_cases q : u = n
                · subst q
                  simp only [if_true]
                  rw [pk_us, pk_un (by omega), pk_un (by omega), pk_us]
                  exact ⟨rfl, hc, rfl⟩
                · simp only [if_neg q]
                  rw [pk_un q, pk_un (by omega), pk_un (by omega), pk_un (by omega), pk_un (by omega), pk_un (by omega), pk_un (by omega)]
                  exact h5 u (by omega)
              · by_cases q1 : u = n
                · by_cases q2 : v = n
                  · rw [q1, q2]
                  · simp only [if_pos q1, if_neg q2] at e
                    exact absurd e.symm (f2 v (by omega))
                · by_cases q2 : v = n
                  · simp only [if_neg q1, if_pos q2] at e
                    exact absurd e (f2 u (by omega))
                  · simp only [if_neg q1, if_neg q2] at e
                    exact h6 u v (by omega) (by omega) e
              · by_cases q : u = n
                · simp only [if_pos q]; exact w0
                · simp only [if_neg q]; exact h7 u (by omega)
              · rw [bL_or, bL_one c (by omega) d (by omega), Bool.or_eq_true, decide_eq_true_eq, h8 d hd]
                constructor
                · rintro (⟨t, ht, e⟩ | e)
                  · exact ⟨t, by omega, by show (if t = n then c else C t) = d; rw [if_neg (by omega)]; exact e⟩
                  · exact ⟨n, by omega, by show (if n = n then c else C n) = d; rw [if_pos rfl, e]⟩
                · rintro ⟨t, ht, e⟩
                  have e : (if t = n then c else C t) = d := e
                  by_cases q : t = n
                  · rw [if_pos q] at e; exact Or.inr e.symm
                  · rw [if_neg q] at e; exact Or.inl ⟨t, by omega, e⟩
              · rw [pk_un (by omega), pk_un (by omega), pk_un (by omega), pk_un (by omega), pk_un (by omega), pk_un (by omega)]
                exact h9 d hd
              · by_cases q : u = n
                · subst q
                  rw [pk_us, pk_un (by omega), pk_us]
                · rw [pk_un q, pk_un (by omega), pk_un (by omega), pk_un (by omega), pk_un (by omega), pk_un (by omega), pk_un (by omega)]
                  exact hb u (by omega)
              · by_cases q : u = n
                · subst q
                  rw [pk_us, pk_us]
                · rw [pk_un q, pk_un (by omega), pk_un (by omega), pk_un (by omega), pk_un (by omega), pk_un (by omega), pk_un (by omega)]
                  exact hf u (by omega)
            · exact frT_tr (frT_upd (Or.inl rfl)) (frT_tr (frT_upd (by omega)) (frT_tr (frT_upd (by omega)) (frT_tr (frT_upd (by omega)) (frT_tr (frT_upd (by omega)) (frT_upd (by omega))))))
          · refine ⟨eL 3, kind, m, cell, broken, fell, count, taken, E3, R, F3, ?_, ?_, hT, y3, frT_rf⟩
            · rw [hX, if_neg w, if_neg (by decide), f3, if_neg (p_nlt0 (by omega)), errX]
            · unfold s_M_thing
              rw [(p_kmI hk).2, p_b1, if_neg (by decide), (p_cI hc).2, p_b1, if_neg (by decide), r2, h2, if_neg hne, eF0 (fun z => z.2 t f1 f2), p_b1, if_pos rfl, show (-1000000003 : Int32) = eL 3 from by decide, y2, p_b2]
