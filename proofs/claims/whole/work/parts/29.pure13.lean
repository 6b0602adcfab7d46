/-! pure 15: thoughts: then, when -/
theorem p_copyL (X : Nat → Int32) : ∀ (fuel q i : Nat) (Y : Nat → Int32), i + q = 397 → q < fuel → (∀ j, j < i → Y j = X j) → ∃ Z, s_M_copyAll_c2 X fuel (nI i) Y = some Z ∧ ∀ j, j < 397 → Z j = X j := by
  intro fuel
  induction fuel with
  | zero => intro q i Y _ h; exact absurd h (Nat.not_lt_zero _)
  | succ fuel ih =>
    intro q i Y hq hf hY
    rw [s_M_copyAll_c2]
    cases q with
    | zero =>
      rw [if_pos (show (397 : Int32) ≤ nI i from nI_le (a := 397) (by omega) (by omega))]
      exact ⟨Y, rfl, fun j hj => hY j (by omega)⟩
    | succ q =>
      rw [if_neg (show ¬ (397 : Int32) ≤ nI i from nI_ge (b := 397) (by omega) (by omega)), p_chk (by omega) (by omega), p_chk (by omega) (by omega), nI_clamp (by omega), show nI i + (1 : Int32) = nI (i + 1) from nI_add i 1]
      refine ih q (i + 1) _ (by omega) (by omega) (fun j hj => ?_)
      by_cases z : j = i
      · rw [z, pk_us]
      · rw [pk_un z]; exact hY j (by omega)
theorem p_copyAll (X Y : Nat → Int32) : ∃ Z, s_M_copyAll X Y = some Z ∧ ∀ j, j < 397 → Z j = X j := p_copyL X 400 397 0 Y (by omega) (by omega) (fun j hj => absurd hj (Nat.not_lt_zero _))
theorem p_thinks (R B : Nat → Int32) : ∃ Z, s_M_thinks R B = some Z ∧ ∀ j, j < 397 → Z j = R j := by
  obtain ⟨Z, h1, h2⟩ := p_copyAll R B
  exact ⟨Z, by unfold s_M_thinks; rw [h1, p_b1], h2⟩
theorem p_putsBack (R B : Nat → Int32) : ∃ Z, s_M_putsBack R B = some Z ∧ ∀ j, j < 397 → Z j = B j := by
  obtain ⟨Z, h1, h2⟩ := p_copyAll B R
  exact ⟨Z, by unfold s_M_putsBack; rw [h1, p_b1], h2⟩
theorem p_takeL (wk wm wc wb wf : Nat → Int32) (cnt : Int32) (tk : Int64) : ∀ (fuel q i : Nat) (k m c b f : Nat → Int32), i + q = 6 → q < fuel → (∀ j, j < i → k j = wk j ∧ m j = wm j ∧ c j = wc j ∧ b j = wb j ∧ f j = wf j) → ∃ k' m' c' b' f', s_Things_takeOver_c18 cnt tk wk wm wc wb wf fuel (nI i) k m c b f = some (k', m', c', b', f', cnt, tk) ∧ ∀ j, j < 6 → k' j = wk j ∧ m' j = wm j ∧ c' j = wc j ∧ b' j = wb j ∧ f' j = wf j := by
  intro fuel
  induction fuel with
  | zero => intro q i k m c b f _ h; exact absurd h (Nat.not_lt_zero _)
  | succ fuel ih =>
    intro q i k m c b f hq hf hY
    rw [s_Things_takeOver_c18]
    cases q with
    | zero =>
      rw [if_pos (show (6 : Int32) ≤ nI i from nI_le (a := 6) (by omega) (by omega))]
      exact ⟨k, m, c, b, f, rfl, fun j hj => hY j (by omega)⟩
    | succ q =>
      have hc : ∀ {α : Type} (x : Option α), j_chk (nI i) 6 x = x := fun x => p_chk (by omega) (by omega)
      simp only [hc]
      rw [if_neg (show ¬ (6 : Int32) ≤ nI i from nI_ge (b := 6) (by omega) (by omega)), nI_clamp (by omega), show nI i + (1 : Int32) = nI (i + 1) from nI_add i 1]
      refine ih q (i + 1) _ _ _ _ _ (by omega) (by omega) (fun j hj => ?_)
      by_cases z : j = i
      · rw [z, pk_us, pk_us, pk_us, pk_us, pk_us]
        exact ⟨rfl, rfl, rfl, rfl, rfl⟩
      · rw [pk_un z, pk_un z, pk_un z, pk_un z, pk_un z]
        exact hY j (by omega)
theorem p_takeOver (k m c b f wk wm wc wb wf : Nat → Int32) (cnt0 cnt : Int32) (tk0 tk : Int64) : ∃ k' m' c' b' f', s_Things_takeOver k m c b f cnt0 tk0 wk wm wc wb wf cnt tk = some (k', m', c', b', f', cnt, tk) ∧ ∀ j, j < 6 → k' j = wk j ∧ m' j = wm j ∧ c' j = wc j ∧ b' j = wb j ∧ f' j = wf j :=
  p_takeL wk wm wc wb wf cnt tk 400 6 0 k m c b f (by omega) (by omega) (fun j hj => absurd hj (Nat.not_lt_zero _))
theorem ThR_ag {n : Nat} {K M C : Nat → Nat} {kind m cell kind' m' cell' : Nat → Int32} {count : Int32} {taken walls : Int64} {R : Nat → Int32} (h : ThR n K M C kind m cell count taken walls R) (hg : ∀ j, j < 6 → kind' j = kind j ∧ m' j = m j ∧ cell' j = cell j) : ThR n K M C kind' m' cell' count taken walls R := by
  obtain ⟨hn, h1, h2, h3, h4, h5, h6, h7, h8, h9⟩ := h
  exact ⟨hn, h1, h2, fun t ht => by rw [(hg t (by omega)).1]; exact h3 t ht, fun t ht => by rw [(hg t (by omega)).2.1]; exact h4 t ht, fun t ht => by rw [(hg t (by omega)).2.2]; exact h5 t ht, h6, h7, h8, h9⟩
theorem p_fores {h m : Nat} {n : Int32} {psteps : Nat → Int32} {pcnt : Int32} {len base : Nat} {o v d : Nat → Nat} {R : Nat → Int32} (hm : m ≤ 100) (hc : CdR len o v d psteps pcnt base R) : ∀ (fuel q i : Nat) (pulls st : Nat → Int32), i + q = m → q < fuel → (∀ j, j < i → pulls j = nI (plv len o v d (nI (h + j)) (nI (h + j) / 12) n)) → ∃ pulls' st', s_Thought_foresee_c3 (nI h) (nI m) n psteps pcnt fuel (nI i) pulls st = some (pulls', st') ∧ ∀ j, j < m → pulls' j = nI (plv len o v d (nI (h + j)) (nI (h + j) / 12) n) := by
  intro fuel
  induction fuel with
  | zero => intro q i pulls st _ h; exact absurd h (Nat.not_lt_zero _)
  | succ fuel ih =>
    intro q i pulls st hq hf hY
    rw [s_Thought_foresee_c3]
    cases q with
    | zero =>
      rw [if_pos (nI_le (by omega) (by omega))]
      exact ⟨pulls, st, rfl, fun j hj => hY j (by omega)⟩
    | succ q =>
      obtain ⟨st1, y1⟩ := r_pullAt hc (nI (h + i)) n st
      rw [if_neg (nI_ge (by omega) (by omega)), if_neg (show ¬ (100 : Int32) ≤ nI i from nI_ge (b := 100) (by omega) (by omega)), nI_add, y1, p_b2, p_chk (by omega) (by omega), nI_clamp (by omega), show nI i + (1 : Int32) = nI (i + 1) from nI_add i 1]
      refine ih q (i + 1) _ _ (by omega) (by omega) (fun j hj => ?_)
      by_cases z : j = i
      · rw [z, pk_us]
      · rw [pk_un z]; exact hY j (by omega)
/-- one hour, thought in the class, walked in the model -/
theorem p_step {n h i : Nat} {held : Int32} {K M C : Nat → Nat} {kind mm cell fell pulls : Nat → Int32} {taken walls : Int64} {len len2 : Nat} {o v d o2 v2 d2 : Nat → Nat} {psteps bsteps : Nat → Int32} {pcnt bcnt : Int32} {R : Nat → Int32} (hi : i < 100) (hT : ThR n K M C kind mm cell (nI n) taken walls R) (hc1 : CdR len o v d psteps pcnt 155 R) (hc2 : CdR len2 o2 v2 d2 bsteps bcnt 276 R) (hp : pulls i = nI (plv len o v d (nI (h + i)) (nI (h + i) / 12) (nI n))) (h0 : R 0 = nI (h + i)) (F f : Nat → Int32) :
    ∃ (a' : Nat) (C' Fl' : Nat → Nat) (cell' fell' : Nat → Int32) (tk' : Int64) (R' F1 f1 F' f' : Nat → Int32), s_Thought_passHour (nI i) held kind mm cell fell (nI n) taken pulls walls = some (nI a', cell', fell', tk') ∧ s_M_pullOf (nI (h + i)) R F f = some (nI (plv len o v d (nI (h + i)) (nI (h + i) / 12) (nI n)), F1, f1) ∧ s_M_goes (nI (plv len o v d (nI (h + i)) (nI (h + i) / 12) (nI n))) held R F1 f1 = some (R', F', f') ∧ ThR n K M C' kind mm cell' (nI n) tk' walls R' ∧ (∀ u, u < n → fell' u = nI (Fl' u) ∧ R' (45 + 5 * u) = nI (Fl' u) ∧ Fl' u ≤ 36) ∧ a' ≤ 36 ∧ (∀ mo, a' ≤ mo ↔ ∀ u, u < n → Fl' u ≤ mo) ∧ CdR len o v d psteps pcnt 155 R' ∧ CdR len2 o2 v2 d2 bsteps bcnt 276 R' ∧ R' 0 = nI (h + (i + 1)) := by
  obtain ⟨F1, f1, y2⟩ := r_pullOf hc1 (nI (h + i)) F f
  have h2 : R 2 = nI n := hT.2.2.1
  have hn : n ≤ 6 := hT.1
  rw [h2] at y2
  have hpl : s_Thought_pullOf (nI i) pulls = some (nI (plv len o v d (nI (h + i)) (nI (h + i) / 12) (nI n))) := by
    unfold s_Thought_pullOf
    rw [if_neg (p_nlt0 (by omega)), if_neg (show ¬ (100 : Int32) ≤ nI i from nI_ge (b := 100) (by omega) (by omega)), p_chk (by omega) (by omega), nI_clamp (by omega), hp]
  obtain ⟨a', C', Fl', cell', fell', tk', R', F', f', b1, b2, b3, b4, b5, b6, b7⟩ := r_think (n := n) (held := held) (K := K) (M := M) (kind := kind) (m := mm) (count := nI n) (walls := walls) (plv_lt _ _ _ _ _ _ _) hpl 400 400 n 0 0 C (fun _ => 0) cell fell taken R F1 f1 (by omega) (by omega) (by omega) hT (fun u hu => absurd hu (Nat.not_lt_zero _)) (by omega) (fun mo => ⟨fun _ u hu => absurd hu (Nat.not_lt_zero _), fun _ => Nat.zero_le _⟩) hc2
  refine ⟨a', C', Fl', cell', fell', tk', upd R' 0 (R' 0 + 1), F1, f1, F', f', b1, y2, b2, ThR_on b3 (fun j _ _ j0 => pk_un j0), fun u hu => by rw [pk_un (by omega)]; exact b4 u hu, b5, b6, CdR_on hc1 (fun j q1 q2 => by rw [pk_un (by omega)]; exact b7 j (by omega)), CdR_on hc2 (fun j q1 q2 => by rw [pk_un (by omega)]; exact b7 j (by omega)), ?_⟩
  rw [pk_us, b7 0 (by omega), h0]
  exact nI_add (h + i) 1
theorem p_then {n m h t : Nat} {K M : Nat → Nat} {kind mm broken pulls : Nat → Int32} {walls : Int64} {len len2 : Nat} {o v d o2 v2 d2 : Nat → Nat} {psteps bsteps : Nat → Int32} {pcnt bcnt : Int32} (hm : m ≤ 100) (ht : t < n) (hp : ∀ j, j < m → pulls j = nI (plv len o v d (nI (h + j)) (nI (h + j) / 12) (nI n))) :
    ∀ (fuel fuel' q i : Nat) (C : Nat → Nat) (cell fell : Nat → Int32) (taken : Int64) (R F f : Nat → Int32), i + q = m → q < fuel → q < fuel' → R 0 = nI (h + i) → ThR n K M C kind mm cell (nI n) taken walls R → CdR len o v d psteps pcnt 155 R → CdR len2 o2 v2 d2 bsteps bcnt 276 R →
    ∃ r cell' fell' tk' R' F' f', s_Thought_cellBehind_c14 (nI t) (nI m) kind mm broken (nI n) pulls walls fuel (nI i) cell fell taken = some (r, kind, mm, cell', broken, fell', nI n, tk') ∧ s_M_goesOn_c2 (nI m) fuel' (nI i) R F f = some (R', F', f') ∧ s_M_of (nI t) (2 : Int32) R' = some r := by
  intro fuel
  induction fuel with
  | zero => intro fuel' q i C cell fell taken R F f _ h; exact absurd h (Nat.not_lt_zero _)
  | succ fuel ih =>
    intro fuel' q i C cell fell taken R F f hq hf hf' h0 hT hc1 hc2
    cases fuel' with
    | zero => exact absurd hf' (Nat.not_lt_zero _)
    | succ fuel' =>
    rw [s_Thought_cellBehind_c14, s_M_goesOn_c2]
    obtain ⟨hn, -, -, -, -, h5, -⟩ := id hT
    cases q with
    | zero =>
      rw [if_pos (nI_le (by omega) (by omega)), if_pos (nI_le (by omega) (by omega)), p_has ht hn, p_b1, if_neg (show ¬ (1 : Int32) = 0 by decide), p_chk (by omega) (by omega), nI_clamp (by omega)]
      refine ⟨cell t, cell, fell, taken, R, F, f, rfl, rfl, ?_⟩
      rw [show (2 : Int32) = nI 2 from rfl, p_of (by omega) (by omega), show 41 + 5 * t + 2 = 43 + 5 * t by omega, (h5 t ht).1, (h5 t ht).2.2]
    | succ q =>
      obtain ⟨a', C', Fl', cell', fell', tk', R', F1, f1, F', f', g1, g2, g3, g4, -, -, -, g5, g6, g7⟩ := p_step (held := (0 : Int32)) (fell := fell) (by omega) hT hc1 hc2 (hp i (by omega)) h0 F f
      rw [if_neg (nI_ge (by omega) (by omega)), if_neg (nI_ge (by omega) (by omega)), g1, p_b4, show (0 : Int32).toNatClampNeg = 0 from rfl, h0, g2, p_b3, g3, p_b3, show nI i + (1 : Int32) = nI (i + 1) from nI_add i 1]
      exact ih fuel' q (i + 1) C' cell' fell' tk' R' F' f' (by omega) (by omega) (by omega) g7 g4 g5 g6
theorem q_then {kind m cell broken fell : Nat → Int32} {count hour : Int32} {taken walls : Int64} {psteps pstack bsteps : Nat → Int32} {pcnt bcnt : Int32} {R E E2 : Nat → Int32} (hT : RTh kind m cell broken fell count taken walls R) (hh : RHr hour R) (hc : RCd psteps pcnt 155 R) (hb : RCd bsteps bcnt 276 R) (hE : ErR E E2) (a b : Int32) (tk tm tc tb tf : Nat → Int32) (tn : Int32) (tt : Int64) (tp B F f : Nat → Int32) :
    ∃ r st' tk' tm' tc' tb' tf' tn' tt' tp' E' R' B' E2' F' f', s_X_then a b kind m cell broken fell count taken walls hour psteps pstack pcnt tk tm tc tb tf tn tt tp E = some (r, st', tk', tm', tc', tb', tf', tn', tt', tp', E') ∧ s_M_then a b R B E2 F f = some (r, R', B', E2', F', f') ∧ ErR E' E2' ∧ (∀ j, j < 397 → R' j = R j) := by
  obtain ⟨E1, F1, x1, x2, x3⟩ := p_err hE (k := 1) (by omega)
  obtain ⟨n, K, M, C, h, hbr, hf, hu⟩ := id hT
  obtain ⟨hn, h1, h2, -⟩ := id h
  obtain ⟨hr, hr1, rfl, hr2⟩ := id hh
  obtain ⟨len, o, v, d, hc⟩ := hc
  obtain ⟨len2, o2, v2, d2, hb⟩ := hb
  subst h1
  have oX : s_X_then_c24 pstack tk tm tc tb tf tn tt tp E = some (eL 1, pstack, tk, tm, tc, tb, tf, tn, tt, tp, E1) := by
    unfold s_X_then_c24
    rw [show (1 : Int32) = nI 1 from rfl, x1, p_b2]
  have oM : s_M_then_c18 R B E2 F f = some (eL 1, R, B, F1, F, f) := by
    unfold s_M_then_c18
    rw [show (-1000000001 : Int32) = eL 1 from by decide, x2, p_b2]
  rcases p_ix a n (by omega) with ho | ⟨t, ht, rfl⟩
  · refine ⟨eL 1, pstack, tk, tm, tc, tb, tf, tn, tt, tp, E1, R, B, F1, F, f, ?_, ?_, x3, fun _ _ => rfl⟩
    · unfold s_X_then
      rw [p_hO ho, p_b1, if_pos rfl, oX]
    · unfold s_M_then
      rw [p_thO hn h2 ho, p_b1, if_pos rfl, oM]
  · rcases p_rg b 0 100 (by omega) (by omega) with ⟨hM, hX⟩ | ⟨j, -, hj, rfl, hM, hX⟩
    · refine ⟨eL 1, pstack, tk, tm, tc, tb, tf, tn, tt, tp, E1, R, B, F1, F, f, ?_, ?_, x3, fun _ _ => rfl⟩
      · unfold s_X_then
        rw [p_has ht hn, p_b1, if_neg (show ¬ (1 : Int32) = 0 by decide)]
        exact (hX _ _).trans oX
      · unfold s_M_then
        rw [p_thI hn h2 ht, p_b1, if_neg (show ¬ (1 : Int32) = 0 by decide), show s_M_in b (0 : Int32) (100 : Int32) = some 0 from hM, p_b1, if_pos rfl, oM]
    · obtain ⟨pulls', st', y1, y2⟩ := p_fores (h := hr) (n := nI n) hj hc 400 j 0 tp pstack (by omega) (by omega) (fun j hj => absurd hj (Nat.not_lt_zero _))
      obtain ⟨k', m', c', b', f', z1, z2⟩ := p_takeOver tk tm tc tb tf kind m cell broken fell tn (nI n) tt taken
      obtain ⟨B', w1, w2⟩ := p_thinks R B
      obtain ⟨r, cell', fell', tk2, R', F', f2, g1, g2, g3⟩ := p_then (kind := k') (mm := m') (broken := b') (pulls := pulls') (walls := walls) hj ht y2 400 400 j 0 C c' f' taken R F f (by omega) (by omega) (by omega) hr2 (ThR_ag h (fun u hu => ⟨(z2 u hu).1, (z2 u hu).2.1, (z2 u hu).2.2.1⟩)) hc hb
      obtain ⟨R2, v1, v2⟩ := p_putsBack R' B'
      refine ⟨r, st', k', m', cell', b', fell', nI n, tk2, pulls', E, R2, B', E2, F', f2, ?_, ?_, hE, fun j hj => (v2 j hj).trans (w2 j hj)⟩
      · unfold s_X_then
        rw [p_has ht hn, p_b1, if_neg (show ¬ (1 : Int32) = 0 by decide)]
        refine (hX _ _).trans ?_
        unfold s_Thought_foresee s_Thought_cellBehind
        rw [show s_Thought_foresee_c3 (nI hr) (nI j) (nI n) psteps pcnt 400 (0 : Int32) tp pstack = some (pulls', st') from y1, p_b2, z1, p_b7, show s_Thought_cellBehind_c14 (nI t) (nI j) k' m' b' (nI n) pulls' walls 400 (0 : Int32) c' f' taken = _ from g1, p_b8]
      · unfold s_M_then
        rw [p_thI hn h2 ht, p_b1, if_neg (show ¬ (1 : Int32) = 0 by decide), show s_M_in (nI j) (0 : Int32) (100 : Int32) = some 1 from hM, p_b1, if_neg (show ¬ (1 : Int32) = 0 by decide), w1, p_b1]
        unfold s_M_goesOn
        rw [show s_M_goesOn_c2 (nI j) 400 (0 : Int32) R F f = _ from g2, p_b3, g3, p_b1, v1, p_b1]
