/-! pure 25: shut -/
/-- whether one who is in e at hour i may be in t behind m hours -/
def rcb (wl : Int64) (pl : Nat → Nat) (t : Nat) : Nat → Nat → Nat → Bool
  | 0, _, e => decide (e = t)
  | m + 1, i, e => rcb wl pl t m (i + 1) e || rcb wl pl t m (i + 1) (rs wl e (pl i))
theorem rcb_s {wl : Int64} {pl : Nat → Nat} {t m i e : Nat} : rcb wl pl t (m + 1) i e = (rcb wl pl t m (i + 1) e || rcb wl pl t m (i + 1) (rs wl e (pl i))) := rfl
theorem rcb_stay {wl : Int64} {pl : Nat → Nat} {t : Nat} : ∀ m i, rcb wl pl t m i t = true := by
  intro m
  induction m with
  | zero => intro i; exact decide_eq_true rfl
  | succ m ih => intro i; unfold rcb; rw [ih (i + 1), Bool.true_or]
theorem p_soonM {len h n t : Nat} {o v d : Nat → Nat} {psteps : Nat → Int32} {pcnt : Int32} {R : Nat → Int32} {wl : Int64} (ht : t < 36) (hc : CdR len o v d psteps pcnt 155 R) (h0 : R 0 = nI h) (h2 : R 2 = nI n) (hW : hWl wl R) : ∀ (fuel q i : Nat) (set : Int64) (F f : Nat → Int32), i + q = 100 → q + 1 < fuel → ∃ r F' f', s_M_soonestOf_c7 (nI t) R fuel set (nI i) F f = some (nI r, F', f') ∧ r ≤ 101 ∧ (r ≤ 100 ↔ ∃ e, e < 36 ∧ bL set e = true ∧ rcb wl (plh len o v d h n) t q i e = true) := by
  intro fuel
  induction fuel with
  | zero => intro q i set F f _ h; exact absurd h (Nat.not_lt_zero _)
  | succ fuel ih =>
    intro q i set F f hq hf
    rw [s_M_soonestOf_c7, if_neg (show ¬ (100 : Int32) < nI i from nI_nlt (a := 100) (by omega) (by omega))]
    cases hb : bL set t with
    | true =>
      rw [if_neg (show ¬ lg_cmp (j_lshr set (nI t) &&& (1 : Int64)) (0 : Int64) = 0 from fun z => by rw [p_bit0 set (by omega), hb] at z; cases z)]
      exact ⟨i, F, f, rfl, by omega, ⟨fun _ => ⟨t, ht, hb, rcb_stay _ _⟩, fun _ => by omega⟩⟩
    | false =>
      obtain ⟨F1, f1, y1⟩ := p_plM hc h0 h2 i F f
      obtain ⟨s1, y3, y4⟩ := p_onward hW (plh_lt len o v d h n i) set
      rw [if_pos ((p_bit0 set (by omega)).mpr hb), y1, p_b3, y3, p_b1, nI_1]
      cases q with
      | zero =>
        have : i = 100 := by omega
        subst this
        cases fuel with
        | zero => exact absurd hf (by omega)
        | succ fuel =>
        rw [s_M_soonestOf_c7, if_pos (show (100 : Int32) < nI (100 + 1) by decide)]
        refine ⟨101, F1, f1, rfl, Nat.le_refl _, ⟨fun z => absurd z (by decide), fun ⟨e, e1, e2, e3⟩ => ?_⟩⟩
        unfold rcb at e3
        rw [decide_eq_true_eq] at e3
        rw [e3, hb] at e2
        cases e2
      | succ q =>
        obtain ⟨r, F', f', g1, g2, g3⟩ := ih q (i + 1) s1 F1 f1 (by omega) (by omega)
        refine ⟨r, F', f', g1, g2, g3.trans ?_⟩
        constructor
        · rintro ⟨e, e1, e2, e3⟩
          rcases (y4 e (by omega)).mp e2 with z | ⟨d', d1, d2, d3⟩
          · refine ⟨e, e1, z, ?_⟩
            unfold rcb
            rw [e3, Bool.true_or]
          · refine ⟨d', d1, d2, ?_⟩
            unfold rcb
            rw [d3, e3, Bool.or_true]
        · rintro ⟨e, e1, e2, e3⟩
          unfold rcb at e3
          rw [Bool.or_eq_true] at e3
          rcases e3 with e3 | e3
          · exact ⟨e, e1, (y4 e (by omega)).mpr (Or.inl e2), e3⟩
          · have hr : rs wl e (plh len o v d h n i) < 36 := rs_lt e1
            exact ⟨rs wl e (plh len o v d h n i), hr, (y4 _ (by omega)).mpr (Or.inr ⟨e, e1, e2, rfl⟩), e3⟩
theorem p_dec {q : Nat} (h : q < 2 ^ 31) : nI q + (-1 : Int32) = if q = 0 then -1 else nI (q - 1) := by
  cases q with
  | zero => decide
  | succ q => rw [if_neg (by omega), ← Int32.sub_eq_add_neg, show (1 : Int32) = nI 1 from rfl, pk_sub (by omega)]
theorem p_shutX {t : Nat} {pl : Nat → Nat} {pulls rests st E : Nat → Int32} {wl : Int64} (hpl : ∀ j, pl j < 4) (hp : ∀ j, j < 100 → pulls j = nI (pl j)) (hL : LdR rests wl) : ∀ (fuel q : Nat) (op : Int64), q ≤ 100 → q < fuel → (∀ c, c < 36 → (bL op c = true ↔ bL wl c = false ∧ rcb wl pl t (100 - q) q c = true)) → ∃ op', s_X_shut_c75 wl st pulls rests wl E fuel op (if q = 0 then -1 else nI (q - 1)) = some ((((68719476735 : Int64) &&& (wl ^^^ (-1 : Int64))) &&& (op' ^^^ (-1 : Int64))), st, pulls, rests, wl, E) ∧ ∀ c, c < 36 → (bL op' c = true ↔ bL wl c = false ∧ rcb wl pl t 100 0 c = true) := by
  intro fuel
  induction fuel with
  | zero => intro q op _ h; exact absurd h (Nat.not_lt_zero _)
  | succ fuel ih =>
    intro q op hq hf ho
    rw [s_X_shut_c75]
    cases q with
    | zero =>
      rw [if_pos (show (if 0 = 0 then (-1 : Int32) else nI (0 - 1)) < 0 by decide)]
      exact ⟨op, rfl, ho⟩
    | succ q =>
      obtain ⟨s1, y2, y3⟩ := p_gather hL (hpl q) op
      rw [if_neg (show ¬ q + 1 = 0 by omega), show q + 1 - 1 = q by omega, if_neg (p_nlt0 (by omega)), p_plX (by omega), p_b1, hp q (by omega), y2, p_b1, p_dec (by omega)]
      refine ih q (op ||| s1) (by omega) (by omega) (fun c hc => ?_)
      have hr : rs wl c (pl q) < 36 := rs_lt hc
      rw [bL_or, Bool.or_eq_true, ho c hc, y3 c (by omega), ho _ hr, show 100 - q = (100 - (q + 1)) + 1 by omega, rcb_s, Bool.or_eq_true]
      constructor
      · rintro (⟨a1, a2⟩ | ⟨-, a1, a2, a3⟩)
        · exact ⟨a1, Or.inl a2⟩
        · exact ⟨a1, Or.inr a3⟩
      · rintro ⟨a1, a2 | a2⟩
        · exact Or.inl ⟨a1, a2⟩
        · refine Or.inr ⟨hc, a1, ?_, a2⟩
          rcases rs_or (wl := wl) (c := c) (w := pl q) with z | z
          · rw [z]; exact a1
          · exact z
theorem p_shutM {len h n t : Nat} {o v d : Nat → Nat} {psteps E2 : Nat → Int32} {pcnt : Int32} {R : Nat → Int32} {wl : Int64} (ht : t < 36) (hc : CdR len o v d psteps pcnt 155 R) (h0 : R 0 = nI h) (h2 : R 2 = nI n) (hW : hWl wl R) : ∀ (fuel q i : Nat) (acc : Int64) (F f : Nat → Int32), i + q = 36 → q < fuel → ∃ s F' f', s_M_shut_c22 (nI t) R E2 fuel acc (nI i) F f = some (s, E2, F', f') ∧ ∀ c, c < 64 → (bL s c = true ↔ bL acc c = true ∨ (i ≤ c ∧ c < 36 ∧ bL wl c = false ∧ rcb wl (plh len o v d h n) t 100 0 c = false)) := by
  intro fuel
  induction fuel with
  | zero => intro q i acc F f _ h; exact absurd h (Nat.not_lt_zero _)
  | succ fuel ih =>
    intro q i acc F f hq hf
    rw [s_M_shut_c22]
    have skip : ¬ (bL wl i = false ∧ rcb wl (plh len o v d h n) t 100 0 i = false) → ∀ F f, (∃ s F' f', s_M_shut_c22 (nI t) R E2 fuel (acc ||| 0) (nI (i + 1)) F f = some (s, E2, F', f') ∧ ∀ c, c < 64 → (bL s c = true ↔ bL (acc ||| 0) c = true ∨ (i + 1 ≤ c ∧ c < 36 ∧ bL wl c = false ∧ rcb wl (plh len o v d h n) t 100 0 c = false))) → ∃ s F' f', s_M_shut_c22 (nI t) R E2 fuel (acc ||| 0) (nI (i + 1)) F f = some (s, E2, F', f') ∧ ∀ c, c < 64 → (bL s c = true ↔ bL acc c = true ∨ (i ≤ c ∧ c < 36 ∧ bL wl c = false ∧ rcb wl (plh len o v d h n) t 100 0 c = false)) := by
      rintro hn F f ⟨s, F', f', e1, e2⟩
      refine ⟨s, F', f', e1, fun c hc => (e2 c hc).trans ?_⟩
      rw [bL_or, bL_0, Bool.or_false]
      refine ⟨fun z => z.elim Or.inl (fun z => Or.inr ⟨by omega, z.2⟩), fun z => z.elim Or.inl (fun ⟨z1, z2, z3⟩ => Or.inr ⟨?_, z2, z3⟩)⟩
      rcases Nat.eq_or_lt_of_le z1 with e | e
      · rw [← e] at z3; exact absurd z3 hn
      · exact e
    cases q with
    | zero =>
      rw [if_pos (show (36 : Int32) ≤ nI i from nI_le (a := 36) (by omega) (by omega))]
      exact ⟨acc, F, f, rfl, fun d hd => ⟨Or.inl, fun z => z.elim id (fun z => absurd z.1 (by omega))⟩⟩
    | succ q =>
      rw [if_neg (show ¬ (36 : Int32) ≤ nI i from nI_ge (b := 36) (by omega) (by omega)), p_wl hW (by omega), p_b1]
      unfold s_M_shut_c58 s_M_shut_c59
      rw [nI_1]
      cases hb : bL wl i with
      | true =>
        rw [if_neg (show ¬ (if true = true then (1 : Int32) else 0) = 0 by decide)]
        exact skip (fun z => by rw [hb] at z; cases z.1) F f (ih q (i + 1) (acc ||| 0) F f (by omega) (by omega))
      | false =>
        obtain ⟨r, F1, f1, g1, g2, g3⟩ := p_soonM (t := t) ht hc h0 h2 hW 400 100 0 (j_lshl (1 : Int64) (nI i)) F f (by omega) (by omega)
        have g4 : r ≤ 100 ↔ rcb wl (plh len o v d h n) t 100 0 i = true := by
          rw [g3]
          constructor
          · rintro ⟨e, e1, e2, e3⟩
            rw [bL_one i (by omega) e (by omega), decide_eq_true_eq] at e2
            rw [← e2]; exact e3
          · intro z
            exact ⟨i, by omega, by rw [bL_one i (by omega) i (by omega), decide_eq_true rfl], z⟩
        unfold s_M_soonestOf
        rw [if_pos (show (if false = true then (1 : Int32) else 0) = 0 from rfl), show s_M_soonestOf_c7 (nI t) R 400 (j_lshl (1 : Int64) (nI i)) (0 : Int32) F f = some (nI r, F1, f1) from g1, p_b3]
        by_cases hr : r ≤ 100
        · rw [if_pos (show nI r ≤ (100 : Int32) from nI_le (b := 100) hr (by omega))]
          exact skip (fun z => by rw [g4.mp hr] at z; cases z.2) F1 f1 (ih q (i + 1) (acc ||| 0) F1 f1 (by omega) (by omega))
        · have hf1 : rcb wl (plh len o v d h n) t 100 0 i = false := by
            cases hq : rcb wl (plh len o v d h n) t 100 0 i with
            | false => rfl
            | true => exact absurd (g4.mpr hq) hr
          rw [if_neg (show ¬ nI r ≤ (100 : Int32) from nI_ge (a := 100) (by omega) (by omega))]
          obtain ⟨s', F', f', e1, e2⟩ := ih q (i + 1) (acc ||| (j_lshl (1 : Int64) (nI i))) F1 f1 (by omega) (by omega)
          refine ⟨s', F', f', e1, fun d hd => (e2 d hd).trans ?_⟩
          rw [bL_or, bL_one _ (by omega) d hd, Bool.or_eq_true, decide_eq_true_eq]
          constructor
          · rintro ((z | z) | z)
            · exact Or.inl z
            · subst z; exact Or.inr ⟨by omega, by omega, hb, hf1⟩
            · exact Or.inr ⟨by omega, z.2⟩
          · rintro (z | ⟨z1, z2⟩)
            · exact Or.inl (Or.inl z)
            · rcases Nat.eq_or_lt_of_le z1 with e | e
              · exact Or.inl (Or.inr e.symm)
              · exact Or.inr ⟨e, z2⟩
theorem p_all : ∀ c, c < 64 → bL (68719476735 : Int64) c = decide (c < 36) := by decide +kernel
theorem q_shut {kind m cell broken fell : Nat → Int32} {count hour : Int32} {taken walls wl0 : Int64} {psteps pstack pulls rests : Nat → Int32} {pcnt : Int32} {R E E2 : Nat → Int32} (hT : RTh kind m cell broken fell count taken walls R) (hh : RHr hour R) (hc : RCd psteps pcnt 155 R) (hE : ErR E E2) (a : Int32) (F f : Nat → Int32) :
    ∃ r st' pulls' rests' wl' E' E2' F' f', s_X_shut a count walls hour psteps pstack pcnt pulls rests wl0 E = some (r, st', pulls', rests', wl', E') ∧ s_M_shut a R E2 F f = some (r, E2', F', f') ∧ ErR E' E2' := by
  have hW := RTh_wl hT
  obtain ⟨n, K, M, C, h, -, -, -⟩ := hT
  obtain ⟨hn, h1, h2, -⟩ := h
  obtain ⟨hr, hr1, rfl, hr2⟩ := hh
  obtain ⟨len, o, v, d, hc⟩ := hc
  obtain ⟨E1, F1, x1, x2, x3⟩ := p_err hE (k := 1) (by omega)
  obtain ⟨E3, F3, y1, y2, y3⟩ := p_err hE (k := 3) (by omega)
  unfold s_X_shut s_M_shut
  rcases p_ix a 36 (by omega) with ho | ⟨t, ht, rfl⟩
  · refine ⟨j_i2l (eL 1), pstack, pulls, rests, wl0, E1, F1, F, f, ?_, ?_, x3⟩
    · rw [(p_cO ho).1, p_b1, if_pos rfl, show (1 : Int32) = nI 1 from rfl, x1, p_b2]
    · rw [p_nrO ho, p_b1, if_neg (eL_ne 1 (by omega)), x2, p_b2]
  · rw [(p_cI ht).1, p_b1, if_neg (show ¬ (1 : Int32) = 0 by decide), p_wallAt (by omega), p_b1, p_nrI hW ht, p_b1]
    cases hb : bL walls t with
    | true =>
      refine ⟨j_i2l (eL 3), pstack, pulls, rests, wl0, E3, F3, F, f, ?_, ?_, y3⟩
      · rw [if_pos (show (if true = true then (1 : Int32) else 0) = 1 from rfl), show (3 : Int32) = nI 3 from rfl, y1, p_b2]
      · rw [if_pos (show true = true from rfl), if_neg (eL_ne 3 (by omega)), y2, p_b2]
    | false =>
      obtain ⟨rests', l1, l2⟩ := p_learn walls wl0 rests
      obtain ⟨pulls', st', z1, z2⟩ := p_fores (h := hr) (n := nI n) (m := 100) (by omega) hc 400 100 0 pulls pstack (by omega) (by omega) (fun j hj => absurd hj (Nat.not_lt_zero _))
      obtain ⟨op, g1, g2⟩ := p_shutX (t := t) (pl := plh len o v d hr n) (pulls := pulls') (rests := rests') (st := st') (E := E) (wl := walls) (plh_lt len o v d hr n) z2 l2 400 100 (j_lshl (1 : Int64) (nI t)) (by omega) (by omega) (fun c hcc => by
        rw [bL_one t (by omega) c (by omega), decide_eq_true_eq, show 100 - 100 = 0 from rfl]
        unfold rcb
        rw [decide_eq_true_eq]
        exact ⟨fun z => ⟨by rw [z]; exact hb, z⟩, fun z => z.2⟩)
      obtain ⟨s, F', f', k1, k2⟩ := p_shutM (E2 := E2) (t := t) ht hc hr2 h2 hW 400 36 0 0 F f (by omega) (by omega)
      have e : (((68719476735 : Int64) &&& (walls ^^^ (-1 : Int64))) &&& (op ^^^ (-1 : Int64))) = s := by
        apply bL_ext
        intro c hcc
        rw [bL_and, bL_and, bL_not _ hcc, bL_not _ hcc, p_all c hcc, Bool.eq_iff_iff, k2 c hcc, bL_0]
        by_cases q : c < 36
        · rw [decide_eq_true q]
          have := g2 c q
          cases hw : bL walls c with
          | true => simp
          | false =>
            rw [hw] at this
            cases ho : bL op c with
            | true =>
              have := (this.mp ho).2
              simp [this]
            | false =>
              have : rcb walls (plh len o v d hr n) t 100 0 c = false := by
                cases hz : rcb walls (plh len o v d hr n) t 100 0 c with
                | false => rfl
                | true => rw [this.mpr ⟨rfl, hz⟩] at ho; cases ho
              simp [this, q]
        · rw [decide_eq_false q]
          simp [q]
      refine ⟨s, st', pulls', rests', walls, E, E2, F', f', ?_, ?_, hE⟩
      · rw [if_neg (show ¬ (if false = true then (1 : Int32) else 0) = 1 by decide)]
        unfold s_Thought_foresee
        rw [h1, show s_Thought_foresee_c3 (nI hr) (100 : Int32) (nI n) psteps pcnt 400 (0 : Int32) pulls pstack = some (pulls', st') from z1, p_b2, l1, p_b2, ← e]
        exact g1
      · rw [if_neg (show ¬ false = true by decide), if_pos rfl]
        exact k1
