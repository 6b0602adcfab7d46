/-! pure 26: sheets; fits -/
def RSh (bits len num bM sM cM : Nat → Int32) : Prop := ∃ L : Nat → Nat, ∀ s, s < 4 → bits s = bM s ∧ L s ≤ 24 ∧ len s = nI (L s) ∧ sM s = nI (L s) ∧ (bits s = 0 → L s = 0) ∧ ∀ k, k < L s → num (24 * s + k) = cM (24 * s + k)
theorem p_shO {x : Int32} (h : x < 0 ∨ nI 4 ≤ x) : s_Sheets_isSheet x = some 0 ∧ s_M_isSheet x = some 0 := by
  constructor
  · unfold s_Sheets_isSheet
    rcases h with h | h
    · rw [if_pos h]
    · by_cases c : x < 0
      · rw [if_pos c]
      · rw [if_neg c, if_pos (show (4 : Int32) ≤ x from h)]
  · unfold s_M_isSheet
    rw [show (3 : Int32) = nI 3 from rfl, p_inO (by omega) h, p_b1, p_bz (Or.inl rfl)]
theorem p_shI {s : Nat} (h : s < 4) : s_Sheets_isSheet (nI s) = some 1 ∧ s_M_isSheet (nI s) = some 1 := by
  constructor
  · unfold s_Sheets_isSheet
    rw [if_neg (p_nlt0 (by omega)), if_neg (show ¬ (4 : Int32) ≤ nI s from nI_ge (b := 4) (by omega) (by omega))]
  · unfold s_M_isSheet
    rw [show (3 : Int32) = nI 3 from rfl, p_inI (by omega) (by omega), p_b1, p_bz (Or.inr rfl)]
theorem p_miss {s : Nat} {bits : Nat → Int32} (h : s < 4) : s_Sheets_isMissing (nI s) bits = some (if bits s = 0 then 1 else 0) := by
  unfold s_Sheets_isMissing
  rw [(p_shI h).1, p_b1, if_neg (show ¬ (1 : Int32) = 0 by decide), p_chk h (by omega), nI_clamp (by omega)]
  by_cases c : bits s = 0
  · rw [if_pos c, if_pos c]
  · rw [if_neg c, if_neg c]
theorem p_nthO {x : Int32} {bM : Nat → Int32} (h : x < 0 ∨ nI 4 ≤ x) : s_M_notThere x bM = some (eL 1) := by
  unfold s_M_notThere
  rw [(p_shO h).2, p_b1, if_pos rfl, show (-1000000001 : Int32) = eL 1 from by decide]
theorem p_nthI {s : Nat} {bM : Nat → Int32} (h : s < 4) : s_M_notThere (nI s) bM = some (if bM s = 0 then eL 2 else 0) := by
  unfold s_M_notThere
  rw [(p_shI h).2, p_b1, if_neg (show ¬ (1 : Int32) = 0 by decide), p_chk h (by omega), nI_clamp (by omega), show (-1000000002 : Int32) = eL 2 from by decide]
  by_cases c : bM s = 0
  · rw [if_pos c, if_pos c]
  · rw [if_neg c, if_neg c]
theorem p_hasN {s k l : Nat} {len : Nat → Int32} (hs : s < 4) (hl : len s = nI l) (h24 : l ≤ 24) (hk : k < l) : s_Sheets_hasNumber (nI s) (nI k) len = some 1 := by
  unfold s_Sheets_hasNumber
  rw [(p_shI hs).1, p_b1, if_neg (show ¬ (1 : Int32) = 0 by decide), if_neg (p_nlt0 (by omega)), p_chk hs (by omega), nI_clamp (by omega), hl, if_neg (nI_ge hk (by omega)), if_neg (show ¬ (24 : Int32) ≤ nI k from nI_ge (b := 24) (by omega) (by omega))]
theorem p_ixS (s k : Nat) : (nI s * (24 : Int32)) + nI k = nI (24 * s + k) ∧ ((24 : Int32) * nI s) + nI k = nI (24 * s + k) := by
  constructor
  · rw [p_lit 24, pk_mul, nI_add, Nat.mul_comm]
  · rw [p_lit 24, pk_mul, nI_add]
theorem p_numAt {s k l : Nat} {len num : Nat → Int32} (hs : s < 4) (hl : len s = nI l) (h24 : l ≤ 24) (hk : k < l) : s_Sheets_numberAt (nI s) (nI k) len num = some (num (24 * s + k)) := by
  unfold s_Sheets_numberAt
  rw [p_hasN hs hl h24 hk, p_b1, if_neg (show ¬ (1 : Int32) = 0 by decide), (p_ixS s k).1, p_chk (by omega) (by omega), nI_clamp (by omega)]
theorem p_fitOne {len n s l hr : Nat} {o v d : Nat → Nat} {psteps pulls rests ln num sM cM : Nat → Int32} {pcnt : Int32} {R : Nat → Int32} {wl : Int64} (hc : CdR len o v d psteps pcnt 155 R) (h2 : R 2 = nI n) (hp : ∀ j, j < 36 → pulls j = nI (plh len o v d 0 n j)) (hL : LdR rests wl) (hW : hWl wl R) (hs : s < 4) (hl : ln s = nI l) (hl2 : sM s = nI l) (h24 : l ≤ 24) (hnum : ∀ k, k < l → num (24 * s + k) = cM (24 * s + k)) (hhr : hr < 12) : ∀ (fuel fuel' q i a : Nat) (F f : Nat → Int32), i + q = l → 1 ≤ i → a < 36 → q < fuel → q + 1 < fuel' → ∃ (b : Bool) (F' f' : Nat → Int32), s_X_fitsFrom_c13 (nI s) (nI hr) pulls rests ln num fuel (nI a) (nI i) = some (if b = true then 1 else 0) ∧ s_M_isFit_c16 (nI s) (nI hr) R sM cM fuel' (nI a) (1 : Int32) (nI i) F f = some (if b = true then 1 else 0, F', f') := by
  intro fuel
  induction fuel with
  | zero => intro fuel' q i a F f _ _ _ h; exact absurd h (Nat.not_lt_zero _)
  | succ fuel ih =>
    intro fuel' q i a F f hq hi ha hf hf'
    cases fuel' with
    | zero => exact absurd hf' (Nat.not_lt_zero _)
    | succ fuel' =>
    rw [s_X_fitsFrom_c13, s_M_isFit_c16, p_chk hs (by omega), p_chk hs (by omega), nI_clamp (by omega), hl, hl2]
    cases q with
    | zero =>
      rw [if_pos (nI_le (by omega) (by omega)), if_pos (nI_le (by omega) (by omega)), p_bz (Or.inr rfl)]
      exact ⟨true, F, f, rfl, rfl⟩
    | succ q =>
      obtain ⟨F1, f1, y1⟩ := r_pullOf hc (nI (hr + i - 1)) F f
      have e1 : (nI hr + nI i) - (1 : Int32) = nI (hr + i - 1) := by rw [nI_add, show (1 : Int32) = nI 1 from rfl, pk_sub (by omega)]
      have e2 : plv len o v d (nI (hr + i - 1)) (nI (hr + i - 1) / 12) (nI n) = plh len o v d 0 n (hr + i - 1) := by unfold plh; rw [Nat.zero_add]
      have hr1 : rs wl a (plh len o v d 0 n (hr + i - 1)) < 36 := rs_lt ha
      rw [h2, e2] at y1
      rw [if_neg (nI_ge (by omega) (by omega)), if_neg (nI_ge (by omega) (by omega)), if_neg (show ¬ (1 : Int32) = 0 by decide), e1, p_plX (by omega), p_b1, hp _ (by omega), p_Lrest hL ha (plh_lt _ _ _ _ _ _ _), p_b1, p_numAt hs hl h24 (show i < l by omega), p_b1, y1, p_b3, p_landsM hW (plh_lt _ _ _ _ _ _ _) ha, p_b1, (p_ixS s i).2, p_chk (by omega) (by omega), nI_clamp (by omega), hnum i (by omega)]
      unfold s_M_isFit_c69
      rw [nI_1]
      by_cases e : nI (rs wl a (plh len o v d 0 n (hr + i - 1))) = cM (24 * s + i)
      · rw [if_pos e, if_pos e]
        exact ih fuel' q (i + 1) _ F1 f1 (by omega) (by omega) hr1 (by omega) (by omega)
      · rw [if_neg e, if_neg e]
        cases fuel' with
        | zero => exact absurd hf' (by omega)
        | succ fuel' =>
        refine ⟨false, F1, f1, rfl, ?_⟩
        rw [s_M_isFit_c16, p_chk hs (by omega), nI_clamp (by omega), hl2, if_pos (show (0 : Int32) = 0 from rfl), p_bz (Or.inl rfl), ite_self]
        rfl
theorem p_fitL {len n s l a : Nat} {o v d : Nat → Nat} {psteps pulls rests ln num sM cM st E E2 : Nat → Int32} {pcnt : Int32} {R : Nat → Int32} {wl : Int64} (hc : CdR len o v d psteps pcnt 155 R) (h2 : R 2 = nI n) (hp : ∀ j, j < 36 → pulls j = nI (plh len o v d 0 n j)) (hL : LdR rests wl) (hW : hWl wl R) (hs : s < 4) (hl : ln s = nI l) (hl2 : sM s = nI l) (h24 : l ≤ 24) (h0 : 0 < l) (hnum : ∀ k, k < l → num (24 * s + k) = cM (24 * s + k)) (ha : a < 36) (hfa : bL wl a = false) (hca : cM (24 * s) = nI a) : ∀ (fuel fuel' q i : Nat) (set : Int32) (F f : Nat → Int32), i + q = 12 → q < fuel → q < fuel' → ∃ set' F' f', s_X_fits_c106 (nI s) st pulls rests wl ln num E fuel set (nI i) = some (set', st, pulls, rests, wl, E) ∧ s_M_fits_c34 (nI s) R E2 sM cM fuel' set (nI i) F f = some (set', E2, F', f') := by
  intro fuel
  induction fuel with
  | zero => intro fuel' q i set F f _ h; exact absurd h (Nat.not_lt_zero _)
  | succ fuel ih =>
    intro fuel' q i set F f hq hf hf'
    cases fuel' with
    | zero => exact absurd hf' (Nat.not_lt_zero _)
    | succ fuel' =>
    rw [s_X_fits_c106, s_M_fits_c34]
    cases q with
    | zero =>
      rw [if_pos (show (12 : Int32) ≤ nI i from nI_le (a := 12) (by omega) (by omega)), if_pos (show (12 : Int32) ≤ nI i from nI_le (a := 12) (by omega) (by omega))]
      exact ⟨set, F, f, rfl, rfl⟩
    | succ q =>
      have e24 : (24 : Int32) * nI s = nI (24 * s) := by rw [p_lit 24, pk_mul]
      obtain ⟨b, F1, f1, g1, g2⟩ := p_fitOne hc h2 hp hL hW hs hl hl2 h24 hnum (show i < 12 by omega) 400 400 (l - 1) 1 a F f (by omega) (by omega) ha (by omega) (by omega)
      rw [if_neg (show ¬ (12 : Int32) ≤ nI i from nI_ge (b := 12) (by omega) (by omega)), if_neg (show ¬ (12 : Int32) ≤ nI i from nI_ge (b := 12) (by omega) (by omega)), e24, p_chk (by omega) (by omega), nI_clamp (by omega), hca, p_nrI hW ha, p_b1, hfa, if_neg (show ¬ false = true by decide), if_pos rfl]
      unfold s_X_fitsFrom s_M_isFit
      rw [show s_Sheets_numberAt (nI s) (0 : Int32) ln num = some (nI a) from by rw [show (0 : Int32) = nI 0 from rfl, p_numAt hs hl h24 h0, hnum 0 h0, Nat.add_zero, hca], p_b1, e24, p_chk (by omega) (by omega), nI_clamp (by omega), hca]
      rw [show s_X_fitsFrom_c13 (nI s) (nI i) pulls rests ln num 400 (nI a) (1 : Int32) = _ from g1, show s_M_isFit_c16 (nI s) (nI i) R sM cM 400 (nI a) (1 : Int32) (1 : Int32) F f = _ from g2, p_b1, p_b3]
      unfold s_X_fits_c130 s_M_fits_c73
      rw [nI_1]
      cases b with
      | true =>
        rw [if_neg (show ¬ (if true = true then (1 : Int32) else 0) = 0 by decide), if_neg (show ¬ (if true = true then (1 : Int32) else 0) = 0 by decide)]
        exact ih fuel' q (i + 1) _ F1 f1 (by omega) (by omega) (by omega)
      | false =>
        rw [if_pos (show (if false = true then (1 : Int32) else 0) = 0 from rfl), if_pos (show (if false = true then (1 : Int32) else 0) = 0 from rfl), show set ||| (0 : Int32) = set from Int32.or_zero]
        exact ih fuel' q (i + 1) _ F1 f1 (by omega) (by omega) (by omega)
theorem q_fits {kind m cell broken fell : Nat → Int32} {count : Int32} {taken walls wl0 : Int64} {psteps pstack pulls rests bits ln num bM sM cM : Nat → Int32} {pcnt : Int32} {R E E2 : Nat → Int32} (hT : RTh kind m cell broken fell count taken walls R) (hc : RCd psteps pcnt 155 R) (hS : RSh bits ln num bM sM cM) (hE : ErR E E2) (a : Int32) (F f : Nat → Int32) :
    ∃ r st' pulls' rests' wl' E' E2' F' f', s_X_fits a count walls psteps pstack pcnt pulls rests wl0 bits ln num E = some (r, st', pulls', rests', wl', E') ∧ s_M_fits a R E2 F f sM cM = some (r, E2', F', f') ∧ ErR E' E2' := by
  have hW := RTh_wl hT
  obtain ⟨n, K, M, C, h, -, -, -⟩ := hT
  obtain ⟨hn, h1, h2, -⟩ := h
  obtain ⟨len, o, v, d, hc⟩ := hc
  obtain ⟨L, hS⟩ := hS
  obtain ⟨E1, F1, x1, x2, x3⟩ := p_err hE (k := 1) (by omega)
  obtain ⟨E3, F3, y1, y2, y3⟩ := p_err hE (k := 2) (by omega)
  have oX : s_X_fits_c36 pstack pulls rests wl0 E = some (eL 2, pstack, pulls, rests, wl0, E3) := by
    unfold s_X_fits_c36
    rw [show (2 : Int32) = nI 2 from rfl, y1, p_b2]
  unfold s_X_fits s_M_fits
  rw [show (-1000000001 : Int32) = eL 1 from by decide, show (-1000000002 : Int32) = eL 2 from by decide]
  rcases p_ix a 4 (by omega) with ho | ⟨s, hs, rfl⟩
  · refine ⟨eL 1, pstack, pulls, rests, wl0, E1, F1, F, f, ?_, ?_, x3⟩
    · rw [(p_shO ho).1, p_b1, if_pos rfl, show (1 : Int32) = nI 1 from rfl, x1, p_b2]
    · rw [(p_shO ho).2, p_b1, if_pos rfl, x2, p_b2]
  · obtain ⟨s1, s2, s3, s4, s5, s6⟩ := hS s hs
    rw [(p_shI hs).1, p_b1, if_neg (show ¬ (1 : Int32) = 0 by decide), (p_shI hs).2, p_b1, if_neg (show ¬ (1 : Int32) = 0 by decide), p_miss hs, p_b1, p_chk hs (by omega), p_chk hs (by omega), nI_clamp (by omega), s3, s4]
    by_cases hl : L s = 0
    · refine ⟨eL 2, pstack, pulls, rests, wl0, E3, F3, F, f, ?_, ?_, y3⟩
      · rw [hl, if_pos (show nI 0 = 0 from rfl), oX, ite_self]
      · rw [hl, if_pos (show nI 0 = 0 from rfl), y2, p_b2]
    · have hb : ¬ bits s = 0 := fun z => hl (s5 z)
      have hn0 : ¬ nI (L s) = 0 := fun z => hl ((nI_eq (by omega) (by omega)).mp (z.trans (show (0 : Int32) = nI 0 from rfl)))
      have hc0 : num (24 * s + 0) = cM (24 * s) := s6 0 (by omega)
      rw [if_neg hb, if_pos rfl, if_neg hn0, if_neg hn0, show s_Sheets_numberAt (nI s) (0 : Int32) ln num = some (cM (24 * s)) from by rw [show (0 : Int32) = nI 0 from rfl, p_numAt hs s3 s2 (by omega), hc0], p_b1]
      have e24 : (24 : Int32) * nI s = nI (24 * s) := by rw [p_lit 24, pk_mul]
      rcases p_ix (cM (24 * s)) 36 (by omega) with ho | ⟨c, hcc, hce⟩
      · refine ⟨0, pstack, pulls, rests, wl0, E, E2, F, f, ?_, ?_, hE⟩
        · rw [(p_cO ho).1, p_b1, if_pos rfl]
        · rw [s_M_fits_c34, if_neg (show ¬ (12 : Int32) ≤ 0 by decide), e24, p_chk (by omega) (by omega), nI_clamp (by omega), p_nrO ho, p_b1, if_neg (eL_ne 1 (by omega))]
      · rw [hce, (p_cI hcc).1, p_b1, if_neg (show ¬ (1 : Int32) = 0 by decide), p_wallAt (by omega), p_b1]
        cases hb2 : bL walls c with
        | true =>
          refine ⟨0, pstack, pulls, rests, wl0, E, E2, F, f, ?_, ?_, hE⟩
          · rw [if_pos (show (if true = true then (1 : Int32) else 0) = 1 from rfl)]
          · rw [s_M_fits_c34, if_neg (show ¬ (12 : Int32) ≤ 0 by decide), e24, p_chk (by omega) (by omega), nI_clamp (by omega), hce, p_nrI hW hcc, p_b1, hb2, if_pos (show true = true from rfl), if_neg (eL_ne 3 (by omega))]
        | false =>
          obtain ⟨rests', l1, l2⟩ := p_learn walls wl0 rests
          obtain ⟨pulls', st', z1, z2⟩ := p_fores (h := 0) (n := nI n) (m := 36) (by omega) hc 400 36 0 pulls pstack (by omega) (by omega) (fun j hj => absurd hj (Nat.not_lt_zero _))
          obtain ⟨set, F', f', g1, g2⟩ := p_fitL (a := c) (st := st') (E := E) (E2 := E2) (rests := rests') (pulls := pulls') hc h2 z2 l2 hW hs s3 s4 s2 (by omega) s6 hcc hb2 hce 400 400 12 0 0 F f (by omega) (by omega) (by omega)
          refine ⟨set, st', pulls', rests', walls, E, E2, F', f', ?_, g2, hE⟩
          rw [if_neg (show ¬ (if false = true then (1 : Int32) else 0) = 1 by decide)]
          unfold s_Thought_foresee
          rw [h1, show s_Thought_foresee_c3 (0 : Int32) (36 : Int32) (nI n) psteps pcnt 400 (0 : Int32) pulls pstack = some (pulls', st') from z1, p_b2, l1, p_b2]
          exact g1
