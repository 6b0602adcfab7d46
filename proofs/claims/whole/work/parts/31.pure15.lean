/-! pure 17: thoughts: the farthest fall -/
theorem p_rg2 {a lo hi : Int32} {β : Type} (e t : β) : (s_M_in a lo hi = some 0 → (if a < lo then e else if hi < a then e else t) = e) ∧ (s_M_in a lo hi = some 1 → (if a < lo then e else if hi < a then e else t) = t) := by
  unfold s_M_in
  by_cases c1 : a < lo
  · rw [if_pos c1, if_pos c1]
    exact ⟨fun _ => rfl, fun h => absurd h (by decide)⟩
  · rw [if_neg c1, if_neg c1]
    by_cases c2 : hi < a
    · rw [if_pos c2, if_pos c2]
      exact ⟨fun _ => rfl, fun h => absurd h (by decide)⟩
    · rw [if_neg c2, if_neg c2]
      exact ⟨fun h => absurd h (by decide), fun _ => rfl⟩
theorem p_note {n : Nat} {x : Int32} {fell R F f : Nat → Int32} (hn : n ≤ 6) (h2 : R 2 = nI n) (hf : ∀ u, u < n → fell u = R (45 + 5 * u)) (K : Int32 → Int32 → Int32 → Int32 → (Nat → Int32) → (Nat → Int32) → (Nat → Int32) → Option (Int32 × (Nat → Int32) × (Nat → Int32) × (Nat → Int32) × (Nat → Int32) × (Nat → Int32))) : ∀ (fuel fuel' q t : Nat) (a b c : Int32), t + q = n → q < fuel → q < fuel' → ∃ a' b' c', s_Thought_noteFarthest_c2 x fell (nI n) fuel (nI t) a b c = some (a', b', c') ∧ s_M_farthest_c55 K x R F f fuel' a b c (nI t) = K a' b' c' (x + (1 : Int32)) R F f := by
  intro fuel
  induction fuel with
  | zero => intro fuel' q t a b c _ h; exact absurd h (Nat.not_lt_zero _)
  | succ fuel ih =>
    intro fuel' q t a b c hq hf1 hf2
    cases fuel' with
    | zero => exact absurd hf2 (Nat.not_lt_zero _)
    | succ fuel' =>
    rw [s_Thought_noteFarthest_c2, s_M_farthest_c55, show (2 : Int32).toNatClampNeg = 2 from rfl, h2]
    cases q with
    | zero =>
      rw [if_pos (nI_le (by omega) (by omega)), if_pos (nI_le (by omega) (by omega))]
      exact ⟨a, b, c, rfl, rfl⟩
    | succ q =>
      rw [if_neg (nI_ge (by omega) (by omega)), if_neg (nI_ge (by omega) (by omega)), if_neg (show ¬ (6 : Int32) ≤ nI t from nI_ge (b := 6) (by omega) (by omega)), p_chk (by omega) (by omega), p_chk (by omega) (by omega), nI_clamp (by omega), show s_M_of (nI t) (4 : Int32) R = some (fell t) from by rw [show (4 : Int32) = nI 4 from rfl, p_of (by omega) (by omega), show 41 + 5 * t + 4 = 45 + 5 * t by omega, hf t (by omega)]]
      simp only [p_b1]
      unfold s_Thought_noteFarthest_c58 s_M_farthest_c93
      rw [show nI t + (1 : Int32) = nI (t + 1) from nI_add t 1]
      by_cases z : fell t ≤ a
      · rw [if_pos z, if_pos z]
        exact ih fuel' q (t + 1) a b c (by omega) (by omega) (by omega)
      · rw [if_neg z, if_neg z]
        exact ih fuel' q (t + 1) _ _ _ (by omega) (by omega) (by omega)
theorem p_far {n m h : Nat} {p : Int32} {K M : Nat → Nat} {kind mm broken pulls : Nat → Int32} {walls : Int64} {len len2 : Nat} {o v d o2 v2 d2 : Nat → Nat} {psteps bsteps : Nat → Int32} {pcnt bcnt : Int32} {B E2 : Nat → Int32} (hm : m ≤ 100) (hp : ∀ j, j < m → pulls j = nI (plv len o v d (nI (h + j)) (nI (h + j) / 12) (nI n))) :
    ∀ (fuel fuel' q i : Nat) (a b c : Int32) (C : Nat → Nat) (cell fell : Nat → Int32) (taken : Int64) (R F f : Nat → Int32), i + q = m → q < fuel → q < fuel' → R 0 = nI (h + i) → ThR n K M C kind mm cell (nI n) taken walls R → CdR len o v d psteps pcnt 155 R → CdR len2 o2 v2 d2 bsteps bcnt 276 R →
    ∃ a' b' c' cell' fell' tk' R' F' f', s_Thought_fallFarthest_c28 (nI m) kind mm broken (nI n) pulls walls fuel (nI i) cell fell taken a b c = some (kind, mm, cell', broken, fell', nI n, tk', a', b', c') ∧ s_M_farthest_c41 (nI m) p B E2 fuel' a b c (nI (i + 1)) R F f = some (if p = 0 then a' else if p = 1 then b' else c', R', B, E2, F', f') ∧ (∀ j, j < 397 → R' j = B j) := by
  intro fuel
  induction fuel with
  | zero => intro fuel' q i a b c C cell fell taken R F f _ h; exact absurd h (Nat.not_lt_zero _)
  | succ fuel ih =>
    intro fuel' q i a b c C cell fell taken R F f hq hf hf' h0 hT hc1 hc2
    cases fuel' with
    | zero => exact absurd hf' (Nat.not_lt_zero _)
    | succ fuel' =>
    rw [s_Thought_fallFarthest_c28, s_M_farthest_c41]
    have hn : n ≤ 6 := hT.1
    cases q with
    | zero =>
      obtain ⟨Z, z1, z2⟩ := p_putsBack R B
      refine ⟨a, b, c, cell, fell, taken, Z, F, f, ?_, ?_, z2⟩
      · rw [if_pos (nI_le (by omega) (by omega))]
      · rw [if_pos (nI_lt (by omega) (by omega)), z1, p_b1]
        by_cases y1 : p = 0
        · rw [if_pos y1, if_pos y1]
        · rw [if_neg y1, if_neg y1]
          by_cases y2 : p = 1
          · rw [if_pos y2, if_pos y2]
          · rw [if_neg y2, if_neg y2]
    | succ q =>
      obtain ⟨a0, C', Fl', cell', fell', tk', R', F1, f1, F', f', g1, g2, g3, g4, gF, -, -, g5, g6, g7⟩ := p_step (held := (0 : Int32)) (fell := fell) (by omega) hT hc1 hc2 (hp i (by omega)) h0 F f
      obtain ⟨a1, b1, c1, n1, n2⟩ := p_note (x := nI (i + 1)) (fell := fell') (F := F') (f := f') hn g4.2.2.1 (fun u hu => by rw [(gF u hu).1, (gF u hu).2.1]) (s_M_farthest_c41 (nI m) p B E2 fuel') 400 400 n 0 a b c (by omega) (by omega) (by omega)
      rw [if_neg (nI_ge (by omega) (by omega)), if_neg (nI_nlt (by omega) (by omega)), g1, p_b4, p_on1 (by rw [h0]; exact g2) g3, p_b3, show nI i + (1 : Int32) = nI (i + 1) from nI_add i 1]
      unfold s_Thought_noteFarthest
      rw [show s_Thought_noteFarthest_c2 (nI (i + 1)) fell' (nI n) 400 (0 : Int32) a b c = _ from n1, p_b3, show s_M_farthest_c55 (s_M_farthest_c41 (nI m) p B E2 fuel') (nI (i + 1)) R' F' f' 400 a b c (0 : Int32) = _ from n2, show nI (i + 1) + (1 : Int32) = nI (i + 1 + 1) from nI_add (i + 1) 1]
      exact ih fuel' q (i + 1) a1 b1 c1 C' cell' fell' tk' R' F' f' (by omega) (by omega) (by omega) g7 g4 g5 g6
theorem q_farthest {kind m cell broken fell : Nat → Int32} {count hour : Int32} {taken walls : Int64} {psteps pstack bsteps : Nat → Int32} {pcnt bcnt : Int32} {R E E2 : Nat → Int32} (hT : RTh kind m cell broken fell count taken walls R) (hh : RHr hour R) (hc : RCd psteps pcnt 155 R) (hb : RCd bsteps bcnt 276 R) (hE : ErR E E2) (a b : Int32) (tk tm tc tb tf : Nat → Int32) (tn : Int32) (tt : Int64) (tp : Nat → Int32) (ta tb2 tc2 : Int32) (B F f : Nat → Int32) :
    ∃ r st' tk' tm' tc' tb' tf' tn' tt' tp' ta' tb2' tc2' E' R' B' E2' F' f', s_X_farthest a b kind m cell broken fell count taken walls hour psteps pstack pcnt tk tm tc tb tf tn tt tp ta tb2 tc2 E = some (r, st', tk', tm', tc', tb', tf', tn', tt', tp', ta', tb2', tc2', E') ∧ s_M_farthest a b R B E2 F f = some (r, R', B', E2', F', f') ∧ ErR E' E2' ∧ (∀ j, j < 397 → R' j = R j) := by
  obtain ⟨E1, F1, x1, x2, x3⟩ := p_err hE (k := 1) (by omega)
  obtain ⟨n, K, M, C, h, hbr, hf, hu⟩ := id hT
  obtain ⟨hn, h1, h2, -⟩ := id h
  obtain ⟨hr, hr1, rfl, hr2⟩ := id hh
  obtain ⟨len, o, v, d, hc⟩ := hc
  obtain ⟨len2, o2, v2, d2, hb⟩ := hb
  subst h1
  have oX : s_X_farthest_c20 pstack tk tm tc tb tf tn tt tp ta tb2 tc2 E = some (eL 1, pstack, tk, tm, tc, tb, tf, tn, tt, tp, ta, tb2, tc2, E1) := by
    unfold s_X_farthest_c20
    rw [show (1 : Int32) = nI 1 from rfl, x1, p_b2]
  have oM : s_M_farthest_c19 R B E2 F f = some (eL 1, R, B, F1, F, f) := by
    unfold s_M_farthest_c19
    rw [show (-1000000001 : Int32) = eL 1 from by decide, x2, p_b2]
  rcases p_rg a 1 60 (by omega) (by omega) with ⟨hM, -⟩ | ⟨m1, -, hm, rfl, hM, -⟩
  · refine ⟨eL 1, pstack, tk, tm, tc, tb, tf, tn, tt, tp, ta, tb2, tc2, E1, R, B, F1, F, f, ?_, ?_, x3, fun _ _ => rfl⟩
    · unfold s_X_farthest
      exact ((p_rg2 _ _).1 hM).trans oX
    · unfold s_M_farthest
      rw [show s_M_in a (1 : Int32) (60 : Int32) = some 0 from hM, p_b1, if_pos rfl, oM]
  · rcases p_rg b 0 2 (by omega) (by omega) with ⟨hM2, hX⟩ | ⟨j, -, hj, rfl, hM2, hX⟩
    · refine ⟨eL 1, pstack, tk, tm, tc, tb, tf, tn, tt, tp, ta, tb2, tc2, E1, R, B, F1, F, f, ?_, ?_, x3, fun _ _ => rfl⟩
      · unfold s_X_farthest
        refine ((p_rg2 _ _).2 hM).trans ?_
        exact (hX _ _).trans oX
      · unfold s_M_farthest
        rw [show s_M_in (nI m1) (1 : Int32) (60 : Int32) = some 1 from hM, p_b1, if_neg (show ¬ (1 : Int32) = 0 by decide), show s_M_in b (0 : Int32) (2 : Int32) = some 0 from hM2, p_b1, if_pos rfl, oM]
    · obtain ⟨pulls', st', y1, y2⟩ := p_fores (h := hr) (n := nI n) (m := m1) (by omega) hc 400 m1 0 tp pstack (by omega) (by omega) (fun j hj => absurd hj (Nat.not_lt_zero _))
      obtain ⟨k', m', c', b', f', z1, z2⟩ := p_takeOver tk tm tc tb tf kind m cell broken fell tn (nI n) tt taken
      obtain ⟨B', w1, w2⟩ := p_thinks R B
      obtain ⟨ra, rb, rc, cell', fell', tk2, R', F', f2, g1, g2, g3⟩ := p_far (p := nI j) (kind := k') (mm := m') (broken := b') (pulls := pulls') (walls := walls) (B := B') (E2 := E2) (by omega) y2 400 400 m1 0 0 (-1) 0 C c' f' taken R F f (by omega) (by omega) (by omega) hr2 (ThR_ag h (fun u hu => ⟨(z2 u hu).1, (z2 u hu).2.1, (z2 u hu).2.2.1⟩)) hc hb
      refine ⟨if nI j = 0 then ra else if nI j = 1 then rb else rc, st', k', m', cell', b', fell', nI n, tk2, pulls', ra, rb, rc, E, R', B', E2, F', f2, ?_, ?_, hE, fun j hj => (g3 j hj).trans (w2 j hj)⟩
      · unfold s_X_farthest
        refine ((p_rg2 _ _).2 hM).trans ?_
        refine (hX _ _).trans ?_
        unfold s_Thought_foresee s_Thought_fallFarthest
        rw [show s_Thought_foresee_c3 (nI hr) (nI m1) (nI n) psteps pcnt 400 (0 : Int32) tp pstack = some (pulls', st') from y1, p_b2, z1, p_b7, show s_Thought_fallFarthest_c28 (nI m1) k' m' b' (nI n) pulls' walls 400 (0 : Int32) c' f' taken (0 : Int32) (-1 : Int32) (0 : Int32) = _ from g1, p_b10]
        by_cases y1 : nI j = 0
        · rw [if_pos y1, if_pos y1]
        · rw [if_neg y1, if_neg y1]
          by_cases y2 : nI j = (1 : Int32)
          · rw [if_pos y2, if_pos y2]
          · rw [if_neg y2, if_neg y2]
      · unfold s_M_farthest
        rw [show s_M_in (nI m1) (1 : Int32) (60 : Int32) = some 1 from hM, p_b1, if_neg (show ¬ (1 : Int32) = 0 by decide), show s_M_in (nI j) (0 : Int32) (2 : Int32) = some 1 from hM2, p_b1, if_neg (show ¬ (1 : Int32) = 0 by decide), w1, p_b1]
        exact g2
