/-! pure 23: lands, sources, rooms, soonest, shut -/
theorem RTh_wl {kind m cell broken fell : Nat → Int32} {count : Int32} {taken walls : Int64} {R : Nat → Int32} (h : RTh kind m cell broken fell count taken walls R) : hWl walls R := by
  obtain ⟨n, K, M, C, h, -, -, -⟩ := h
  obtain ⟨-, -, -, -, -, -, -, -, -, h9⟩ := h
  exact h9
theorem p_wayO {x : Int32} (h : x < 0 ∨ nI 4 ≤ x) : s_Grid_isWay x = some 0 ∧ s_M_in x 0 3 = some 0 := by
  constructor
  · unfold s_Grid_isWay
    rcases h with h | h
    · rw [if_pos h]
    · by_cases c : x < 0
      · rw [if_pos c]
      · rw [if_neg c, if_pos (show (4 : Int32) ≤ x from h)]
  · rw [show (3 : Int32) = nI 3 from rfl, p_inO (by omega) h]
theorem p_wayI {w : Nat} (h : w < 4) : s_Grid_isWay (nI w) = some 1 ∧ s_M_in (nI w) 0 3 = some 1 := by
  constructor
  · unfold s_Grid_isWay
    rw [if_neg (p_nlt0 (by omega)), if_neg (show ¬ (4 : Int32) ≤ nI w from nI_ge (b := 4) (by omega) (by omega))]
  · rw [show (3 : Int32) = nI 3 from rfl, p_inI (by omega) (by omega)]
theorem p_nrO {x : Int32} {R : Nat → Int32} (h : x < 0 ∨ nI 36 ≤ x) : s_M_notRoom x R = some (eL 1) := by
  unfold s_M_notRoom
  rw [(p_cO h).2, p_b1, if_pos rfl, show (-1000000001 : Int32) = eL 1 from by decide]
theorem p_nrI {wl : Int64} {R : Nat → Int32} (h : hWl wl R) {c : Nat} (hc : c < 36) : s_M_notRoom (nI c) R = some (if bL wl c = true then eL 3 else 0) := by
  unfold s_M_notRoom
  rw [(p_cI hc).2, p_b1, if_neg (show ¬ (1 : Int32) = 0 by decide), p_wl h hc, p_b1]
  cases bL wl c <;> decide
theorem eL_ne (k : Nat) (h : k < 7) : ¬ eL k = 0 := by
  have : ∀ k, k < 7 → ¬ eL k = 0 := by decide +kernel
  exact this k h
theorem q_lands {walls : Int64} {R E E2 : Nat → Int32} (hW : hWl walls R) (hE : ErR E E2) (a b : Int32) :
    ∃ r E' E2', s_X_lands a b walls E = some (r, E') ∧ s_M_lands a b R E2 = some (r, E2') ∧ ErR E' E2' := by
  obtain ⟨E1, F1, x1, x2, x3⟩ := p_err hE (k := 1) (by omega)
  obtain ⟨E3, F3, y1, y2, y3⟩ := p_err hE (k := 3) (by omega)
  have oX : s_X_lands_c14 E = some (eL 1, E1) := by
    unfold s_X_lands_c14
    rw [show (1 : Int32) = nI 1 from rfl, x1, p_b2]
  have oM : ∀ a b, s_M_lands_c19 a b R E2 (eL 1) = some (eL 1, F1) := by
    intro a b
    unfold s_M_lands_c19
    rw [if_neg (eL_ne 1 (by omega)), x2, p_b2]
  unfold s_X_lands s_M_lands
  rw [show (-1000000001 : Int32) = eL 1 from by decide]
  rcases p_ix a 36 (by omega) with ho | ⟨c, hc, rfl⟩
  · refine ⟨eL 1, E1, F1, ?_, ?_, x3⟩
    · rw [(p_cO ho).1, p_b1, if_pos rfl, oX]
    · rcases p_ix b 4 (by omega) with hb | ⟨w, hw, rfl⟩
      · rw [(p_wayO hb).2, p_b1, if_pos rfl, oM]
      · rw [(p_wayI hw).2, p_b1, if_neg (show ¬ (1 : Int32) = 0 by decide), p_nrO ho, p_b1, oM]
  · rw [(p_cI hc).1, p_b1, if_neg (show ¬ (1 : Int32) = 0 by decide)]
    rcases p_ix b 4 (by omega) with hb | ⟨w, hw, rfl⟩
    · refine ⟨eL 1, E1, F1, ?_, ?_, x3⟩
      · rw [(p_wayO hb).1, p_b1, if_pos rfl, oX]
      · rw [(p_wayO hb).2, p_b1, if_pos rfl, oM]
    · rw [(p_wayI hw).1, p_b1, if_neg (show ¬ (1 : Int32) = 0 by decide), (p_wayI hw).2, p_b1, if_neg (show ¬ (1 : Int32) = 0 by decide), p_wallAt (by omega), p_b1, p_nrI hW hc, p_b1]
      unfold s_M_lands_c19
      cases hb : bL walls c with
      | true =>
        refine ⟨eL 3, E3, F3, ?_, ?_, y3⟩
        · rw [if_pos (show (if true = true then (1 : Int32) else 0) = 1 from rfl), show (3 : Int32) = nI 3 from rfl, y1, p_b2]
        · rw [if_pos (show true = true from rfl), if_neg (eL_ne 3 (by omega)), y2, p_b2]
      | false =>
        refine ⟨nI (rs walls c w), E, E2, ?_, ?_, hE⟩
        · rw [if_neg (show ¬ (if false = true then (1 : Int32) else 0) = 1 by decide), p_rest walls hw hc, p_b1]
        · rw [if_neg (show ¬ false = true by decide), if_pos rfl, p_landsM hW hw hc, p_b1]
theorem q_sources {walls wl0 : Int64} {rests R E E2 : Nat → Int32} (hW : hWl walls R) (hE : ErR E E2) (a b : Int32) :
    ∃ r rests' wl' E' E2', s_X_sources a b walls rests wl0 E = some (r, rests', wl', E') ∧ s_M_sources a b R E2 = some (r, E2') ∧ ErR E' E2' := by
  obtain ⟨E1, F1, x1, x2, x3⟩ := p_err hE (k := 1) (by omega)
  obtain ⟨E3, F3, y1, y2, y3⟩ := p_err hE (k := 3) (by omega)
  have oX : s_X_sources_c14 rests wl0 E = some (j_i2l (eL 1), rests, wl0, E1) := by
    unfold s_X_sources_c14
    rw [show (1 : Int32) = nI 1 from rfl, x1, p_b2]
  have oM : ∀ a b, s_M_sources_c19 a b R E2 (eL 1) = some (j_i2l (eL 1), F1) := by
    intro a b
    unfold s_M_sources_c19
    rw [if_neg (eL_ne 1 (by omega)), x2, p_b2]
  unfold s_X_sources s_M_sources
  rw [show (-1000000001 : Int32) = eL 1 from by decide]
  rcases p_ix a 36 (by omega) with ho | ⟨c, hc, rfl⟩
  · refine ⟨j_i2l (eL 1), rests, wl0, E1, F1, ?_, ?_, x3⟩
    · rw [(p_cO ho).1, p_b1, if_pos rfl, oX]
    · rcases p_ix b 4 (by omega) with hb | ⟨w, hw, rfl⟩
      · rw [(p_wayO hb).2, p_b1, if_pos rfl, oM]
      · rw [(p_wayI hw).2, p_b1, if_neg (show ¬ (1 : Int32) = 0 by decide), p_nrO ho, p_b1, oM]
  · rw [(p_cI hc).1, p_b1, if_neg (show ¬ (1 : Int32) = 0 by decide)]
    rcases p_ix b 4 (by omega) with hb | ⟨w, hw, rfl⟩
    · refine ⟨j_i2l (eL 1), rests, wl0, E1, F1, ?_, ?_, x3⟩
      · rw [(p_wayO hb).1, p_b1, if_pos rfl, oX]
      · rw [(p_wayO hb).2, p_b1, if_pos rfl, oM]
    · rw [(p_wayI hw).1, p_b1, if_neg (show ¬ (1 : Int32) = 0 by decide), (p_wayI hw).2, p_b1, if_neg (show ¬ (1 : Int32) = 0 by decide), p_wallAt (by omega), p_b1, p_nrI hW hc, p_b1]
      unfold s_M_sources_c19
      cases hb : bL walls c with
      | true =>
        refine ⟨j_i2l (eL 3), rests, wl0, E3, F3, ?_, ?_, y3⟩
        · rw [if_pos (show (if true = true then (1 : Int32) else 0) = 1 from rfl), show (3 : Int32) = nI 3 from rfl, y1, p_b2]
        · rw [if_pos (show true = true from rfl), if_neg (eL_ne 3 (by omega)), y2, p_b2]
      | false =>
        obtain ⟨rests', l1, l2⟩ := p_learn walls wl0 rests
        obtain ⟨s', g1, g2⟩ := p_gather l2 hw (j_lshl (1 : Int64) (nI c))
        have key : ∀ (k m i : Nat) (acc : Int64), i + m = 36 → m < k → ∃ s', s_M_sources_c37 (nI c) (nI w) R E2 k acc (nI i) = some (s', E2) ∧ ∀ d, d < 64 → (bL s' d = true ↔ bL acc d = true ∨ (i ≤ d ∧ d < 36 ∧ bL walls d = false ∧ rs walls d w = c)) := by
          intro k
          induction k with
          | zero => intro m i _ _ h; exact absurd h (Nat.not_lt_zero _)
          | succ k ih =>
            intro m i acc h1 h2
            rw [s_M_sources_c37]
            have skip : ¬ (bL walls i = false ∧ rs walls i w = c) → (∃ s', s_M_sources_c37 (nI c) (nI w) R E2 k (acc ||| 0) (nI (i + 1)) = some (s', E2) ∧ ∀ d, d < 64 → (bL s' d = true ↔ bL (acc ||| 0) d = true ∨ (i + 1 ≤ d ∧ d < 36 ∧ bL walls d = false ∧ rs walls d w = c))) → ∃ s', s_M_sources_c37 (nI c) (nI w) R E2 k (acc ||| 0) (nI (i + 1)) = some (s', E2) ∧ ∀ d, d < 64 → (bL s' d = true ↔ bL acc d = true ∨ (i ≤ d ∧ d < 36 ∧ bL walls d = false ∧ rs walls d w = c)) := by
              rintro hn ⟨s', e1, e2⟩
              refine ⟨s', e1, fun d hd => (e2 d hd).trans ?_⟩
              rw [bL_or, bL_0, Bool.or_false]
              refine ⟨fun z => z.elim Or.inl (fun z => Or.inr ⟨by omega, z.2⟩), fun z => z.elim Or.inl (fun ⟨z1, z2, z3⟩ => Or.inr ⟨?_, z2, z3⟩)⟩
              rcases Nat.eq_or_lt_of_le z1 with e | e
              · rw [← e] at z3; exact absurd z3 hn
              · exact e
            cases m with
            | zero =>
              rw [if_pos (show (36 : Int32) ≤ nI i from nI_le (a := 36) (by omega) (by omega))]
              exact ⟨acc, rfl, fun d hd => ⟨Or.inl, fun z => z.elim id (fun z => absurd z.1 (by omega))⟩⟩
            | succ m =>
              rw [if_neg (show ¬ (36 : Int32) ≤ nI i from nI_ge (b := 36) (by omega) (by omega)), p_wl hW (by omega), p_b1]
              unfold s_M_sources_c73 s_M_sources_c74
              rw [nI_1]
              have hr : rs walls i w < 36 := rs_lt (by omega)
              cases hb : bL walls i with
              | true =>
                rw [if_neg (show ¬ (if true = true then (1 : Int32) else 0) = 0 by decide)]
                exact skip (fun z => by rw [hb] at z; cases z.1) (ih m (i + 1) (acc ||| 0) (by omega) (by omega))
              | false =>
                rw [if_pos (show (if false = true then (1 : Int32) else 0) = 0 from rfl), p_landsM hW hw (by omega), p_b1]
                by_cases hs : rs walls i w = c
                · rw [if_pos (by rw [hs])]
                  obtain ⟨s', e1, e2⟩ := ih m (i + 1) (acc ||| (j_lshl (1 : Int64) (nI i))) (by omega) (by omega)
                  refine ⟨s', e1, fun d hd => (e2 d hd).trans ?_⟩
                  rw [bL_or, bL_one _ (by omega) d hd, Bool.or_eq_true, decide_eq_true_eq]
                  constructor
                  · rintro ((z | z) | z)
                    · exact Or.inl z
                    · subst z; exact Or.inr ⟨by omega, by omega, hb, hs⟩
                    · exact Or.inr ⟨by omega, z.2⟩
                  · rintro (z | ⟨z1, z2⟩)
                    · exact Or.inl (Or.inl z)
                    · rcases Nat.eq_or_lt_of_le z1 with e | e
                      · exact Or.inl (Or.inr e.symm)
                      · exact Or.inr ⟨e, z2⟩
                · rw [if_neg (by rw [nI_eq (by omega) (by omega)]; exact hs)]
                  exact skip (fun z => hs z.2) (ih m (i + 1) (acc ||| 0) (by omega) (by omega))
        obtain ⟨s2, k1, k2⟩ := key 400 36 0 0 (by omega) (by omega)
        have e : s2 = s' := by
          apply bL_ext
          intro d hd
          rw [Bool.eq_iff_iff, k2 d hd, g2 d hd]
          constructor
          · rintro (z | ⟨-, z1, z2, z3⟩)
            · rw [bL_0] at z; cases z
            · refine ⟨z1, z2, ?_⟩
              rw [bL_one _ (by omega) _ (by omega), z3, decide_eq_true rfl]
          · rintro ⟨z1, z2, z3⟩
            have hr : rs walls d w < 36 := rs_lt z1
            rw [bL_one _ (by omega) _ (by omega), decide_eq_true_eq] at z3
            exact Or.inr ⟨Nat.zero_le _, z1, z2, z3⟩
        refine ⟨s', rests', walls, E, E2, ?_, ?_, hE⟩
        · rw [if_neg (show ¬ (if false = true then (1 : Int32) else 0) = 1 by decide), l1, p_b2, g1, p_b1]
        · rw [if_neg (show ¬ false = true by decide), if_pos rfl, show s_M_sources_c37 (nI c) (nI w) R E2 400 (0 : Int64) (0 : Int32) = some (s2, E2) from k1, e]
