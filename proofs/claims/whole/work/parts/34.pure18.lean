/-! pure 20: the fewest screws, both searches -/
theorem fQ_spec (Q : Nat → Bool) (c : Nat) : ∀ q k, (fQ Q c q k = none ∧ ∀ j, k ≤ j → j < k + q → ¬ (bcn 6 j = c ∧ Q j = true)) ∨ ∃ k', fQ Q c q k = some k' ∧ k ≤ k' ∧ k' < k + q ∧ bcn 6 k' = c ∧ Q k' = true ∧ ∀ j, k ≤ j → j < k' → ¬ (bcn 6 j = c ∧ Q j = true) := by
  intro q
  induction q with
  | zero => intro k; exact Or.inl ⟨rfl, fun j h1 h2 => absurd h2 (by omega)⟩
  | succ q ih =>
    intro k
    rw [fQ]
    by_cases e : bcn 6 k = c ∧ Q k = true
    · rw [if_pos e]
      exact Or.inr ⟨k, rfl, Nat.le_refl k, by omega, e.1, e.2, fun j h1 h2 => absurd h2 (by omega)⟩
    · rw [if_neg e]
      rcases ih (k + 1) with ⟨h1, h2⟩ | ⟨k', h1, h2, h3, h4, h5, h6⟩
      · refine Or.inl ⟨h1, fun j j1 j2 => ?_⟩
        by_cases z : j = k
        · rw [z]; exact e
        · exact h2 j (by omega) (by omega)
      · refine Or.inr ⟨k', h1, by omega, by omega, h4, h5, fun j j1 j2 => ?_⟩
        by_cases z : j = k
        · rw [z]; exact e
        · exact h6 j (by omega) j2
def bst (Q : Nat → Bool) (N c0 k : Nat) : Prop := (k = N ∧ ∀ j, j < N → c0 ≤ bcn 6 j → ¬ Q j = true) ∨ (k < N ∧ Q k = true ∧ c0 ≤ bcn 6 k ∧ ∀ j, j < N → c0 ≤ bcn 6 j → Q j = true → bcn 6 k < bcn 6 j ∨ (bcn 6 k = bcn 6 j ∧ k ≤ j))
theorem p_top : ∀ n, n ≤ 6 → bcn 6 (2 ^ n - 1) = n ∧ 2 ^ n - 1 < 64 ∧ (1 : Int32) <<< (nI n &&& 31) = nI (2 ^ n) ∧ (1 : Int32) <<< (nI n &&& 31) - (1 : Int32) = nI (2 ^ n - 1) ∧ ∀ x, x < 2 ^ n - 1 → bcn 6 x < n := by decide +kernel
theorem p_outer {n N m mo p3 : Nat} {Q : Nat → Bool} {kind mm cell broken fell pulls pst E : Nat → Int32} {taken walls : Int64} (hn : n ≤ 6) (hN : N = 2 ^ n - 1)
    (hQ : ∀ k, k < 64 → ∀ (tk tm tc tb tf : Nat → Int32) (tn : Int32) (tt : Int64), ∃ tk' tm' tc' tb' tf' tt', s_Thought_staysWithin (nI m) (nI mo) (nI k) tk tm tc tb tf tn tt pulls kind mm cell broken fell (nI n) taken walls = some (if Q k = true then 1 else 0, tk', tm', tc', tb', tf', nI n, tt')) :
    ∀ (fuel q c : Nat) (tk tm tc tb tf : Nat → Int32) (tn : Int32) (tt : Int64), c + q = n → q < fuel → ∃ k tk' tm' tc' tb' tf' tn' tt', bst Q N c k ∧ s_X_screws_c77 (nI m) (nI mo) (nI p3) (nI n) (nI N) kind mm cell broken fell (nI n) taken walls pst pulls E fuel (nI c) tk tm tc tb tf tn tt = some (if nI p3 = 0 then nI (bcn 6 k) else nI k, pst, tk', tm', tc', tb', tf', tn', tt', pulls, E) := by
  obtain ⟨t1, t2, -, -, t3⟩ := p_top n hn
  rw [← hN] at t1 t2 t3
  intro fuel
  induction fuel with
  | zero => intro q c tk tm tc tb tf tn tt _ h; exact absurd h (Nat.not_lt_zero _)
  | succ fuel ih =>
    intro q c tk tm tc tb tf tn tt hq hf
    rw [s_X_screws_c77]
    cases q with
    | zero =>
      refine ⟨N, tk, tm, tc, tb, tf, tn, tt, Or.inl ⟨rfl, fun j j1 j2 => absurd (t3 j j1) (by omega)⟩, ?_⟩
      rw [if_pos (nI_le (by omega) (by omega)), t1]
      by_cases w : nI p3 = 0
      · rw [if_pos w, if_pos w]
      · rw [if_neg w, if_neg w]
    | succ q =>
      rw [if_neg (nI_ge (by omega) (by omega))]
      obtain ⟨tk', tm', tc', tb', tf', tn', tt', y⟩ := p_inner (N := N) (c := c) (p3 := p3) (pst := pst) (E := E) t2 (by omega) (s_X_screws_c77 (nI m) (nI mo) (nI p3) (nI n) (nI N) kind mm cell broken fell (nI n) taken walls pst pulls E fuel) hQ 400 N 0 tk tm tc tb tf tn tt (by omega) (by omega)
      rw [show ∀ K : Int32 → (Nat → Int32) → (Nat → Int32) → (Nat → Int32) → (Nat → Int32) → (Nat → Int32) → Int32 → Int64 → (Option (Int32 × (Nat → Int32) × (Nat → Int32) × (Nat → Int32) × (Nat → Int32) × (Nat → Int32) × (Nat → Int32) × Int32 × Int64 × (Nat → Int32) × (Nat → Int32))), s_X_screws_c87 K (nI m) (nI mo) (nI p3) (nI N) (nI c) kind mm cell broken fell (nI n) taken walls pst pulls E 400 (0 : Int32) tk tm tc tb tf tn tt = s_X_screws_c87 K (nI m) (nI mo) (nI p3) (nI N) (nI c) kind mm cell broken fell (nI n) taken walls pst pulls E 400 (nI 0) tk tm tc tb tf tn tt from fun K => rfl, y]
      rcases fQ_spec Q c N 0 with ⟨h1, h2⟩ | ⟨k', h1, h2, h3, h4, h5, h6⟩
      · rw [h1]
        obtain ⟨k, a1, a2, a3, a4, a5, a6, a7, b1, b2⟩ := ih q (c + 1) tk' tm' tc' tb' tf' tn' tt' (by omega) (by omega)
        refine ⟨k, a1, a2, a3, a4, a5, a6, a7, ?_, by rw [show nI c + (1 : Int32) = nI (c + 1) from nI_add c 1]; exact b2⟩
        rcases b1 with ⟨e1, e2⟩ | ⟨e1, e2, e3, e4⟩
        · refine Or.inl ⟨e1, fun j j1 j2 j3 => ?_⟩
          by_cases z : bcn 6 j = c
          · exact h2 j (by omega) (by omega) ⟨z, j3⟩
          · exact e2 j j1 (by omega) j3
        · refine Or.inr ⟨e1, e2, by omega, fun j j1 j2 j3 => ?_⟩
          by_cases z : bcn 6 j = c
          · exact absurd ⟨z, j3⟩ (h2 j (by omega) (by omega))
          · exact e4 j j1 (by omega) j3
      · rw [h1]
        refine ⟨k', tk', tm', tc', tb', tf', tn', tt', Or.inr ⟨by omega, h5, by omega, fun j j1 j2 j3 => ?_⟩, by rw [h4]⟩
        by_cases z : bcn 6 j = c
        · by_cases w : j < k'
          · exact absurd ⟨z, j3⟩ (h6 j (by omega) w)
          · right; omega
        · left; omega
def bsm (Q : Nat → Bool) (N x k : Nat) : Prop := (k = N ∧ ∀ j, j < x → j < N → ¬ Q j = true) ∨ (k < N ∧ k < x ∧ Q k = true ∧ ∀ j, j < x → j < N → Q j = true → bcn 6 k < bcn 6 j ∨ (bcn 6 k = bcn 6 j ∧ k ≤ j))
theorem p_msearch {n N m mo p3 : Nat} {Q : Nat → Bool} {R0 B E2 : Nat → Int32} (hn : n ≤ 6) (hN : N = 2 ^ n - 1) (h2 : R0 2 = nI n)
    (hQ : ∀ k, k < 64 → ∀ R F f : Nat → Int32, (∀ j, j < 397 → R j = R0 j) → ∃ R' F' f', s_M_isCalm (nI k) (nI m) (nI mo) R B F f = some (if Q k = true then 1 else 0, R', F', f') ∧ ∀ j, j < 397 → R' j = R0 j) :
    ∀ (fuel q x k : Nat) (R F f : Nat → Int32), x + q = N + 1 → q < fuel → bsm Q N x k → (∀ j, j < 397 → R j = R0 j) → ∃ k' R' F' f', bsm Q N (N + 1) k' ∧ s_M_screws_c54 (nI m) (nI mo) (nI p3) B E2 fuel (nI k) (nI x) R F f = some (if nI p3 = 0 then nI (bcn 6 k') else nI k', R', B, E2, F', f') ∧ ∀ j, j < 397 → R' j = R0 j := by
  obtain ⟨t1, t2, t4, -, t3⟩ := p_top n hn
  have hN1 : 2 ^ n = N + 1 := by have := Nat.two_pow_pos n; omega
  rw [← hN] at t1 t2 t3
  rw [hN1] at t4
  intro fuel
  induction fuel with
  | zero => intro q x k R F f _ h; exact absurd h (Nat.not_lt_zero _)
  | succ fuel ih =>
    intro q x k R F f hq hf hb hR
    have hk : k < 64 := by rcases hb with ⟨e, -⟩ | ⟨e, -⟩ <;> omega
    rw [s_M_screws_c54, show (2 : Int32).toNatClampNeg = 2 from rfl, hR 2 (by omega), h2, t4]
    cases q with
    | zero =>
      have : x = N + 1 := by omega
      subst this
      refine ⟨k, R, F, f, hb, ?_, hR⟩
      rw [if_pos (nI_le (by omega) (by omega)), (p_bc k hk).2.1, p_b1]
      by_cases w : nI p3 = 0
      · rw [if_pos w, if_pos w]
      · rw [if_neg w, if_neg w]
    | succ q =>
      rw [if_neg (nI_ge (by omega) (by omega)), (p_bc x (by omega)).2.1, p_b1, (p_bc k hk).2.1, p_b1]
      unfold s_M_screws_c95
      rw [show nI x + (1 : Int32) = nI (x + 1) from nI_add x 1]
      have hx := (p_bc x (by omega)).2.2
      have hkb := (p_bc k hk).2.2
      by_cases z : bcn 6 k ≤ bcn 6 x
      · rw [if_pos (nI_le z (by omega))]
        refine ih q (x + 1) k R F f (by omega) (by omega) ?_ hR
        rcases hb with ⟨e1, e2⟩ | ⟨e1, e2, e3, e4⟩
        · refine Or.inl ⟨e1, fun j j1 j2 => ?_⟩
          by_cases w : j = x
          · subst w; have := t3 j j2; rw [e1, t1] at z; omega
          · exact e2 j (by omega) j2
        · refine Or.inr ⟨e1, by omega, e3, fun j j1 j2 j3 => ?_⟩
          by_cases w : j = x
          · subst w; omega
          · exact e4 j (by omega) j2 j3
      · rw [if_neg (nI_ge (by omega) (by omega))]
        have hxN : x < N := by
          rcases Nat.lt_or_ge x N with w | w
          · exact w
          · exfalso
            have : x = N := by omega
            subst this
            rcases hb with ⟨e1, -⟩ | ⟨e1, -⟩
            · subst e1; omega
            · have := t3 k e1; omega
        obtain ⟨R', F', f', y1, y2⟩ := hQ x (by omega) R F f hR
        rw [y1, p_b4]
        by_cases w : Q x = true
        · rw [if_pos w, if_neg (show ¬ (1 : Int32) = 0 by decide)]
          refine ih q (x + 1) x R' F' f' (by omega) (by omega) (Or.inr ⟨hxN, by omega, w, fun j j1 j2 j3 => ?_⟩) y2
          by_cases u : j = x
          · right; rw [u]; exact ⟨rfl, Nat.le_refl x⟩
          · left
            rcases hb with ⟨e1, e2⟩ | ⟨e1, e2, e3, e4⟩
            · exact absurd j3 (e2 j (by omega) j2)
            · have := e4 j (by omega) j2 j3; omega
        · rw [if_neg w, if_pos rfl]
          refine ih q (x + 1) k R' F' f' (by omega) (by omega) ?_ y2
          rcases hb with ⟨e1, e2⟩ | ⟨e1, e2, e3, e4⟩
          · refine Or.inl ⟨e1, fun j j1 j2 => ?_⟩
            by_cases u : j = x
            · rw [u]; exact w
            · exact e2 j (by omega) j2
          · refine Or.inr ⟨e1, by omega, e3, fun j j1 j2 j3 => ?_⟩
            by_cases u : j = x
            · subst u; exact absurd j3 w
            · exact e4 j (by omega) j2 j3
theorem p_uniq {Q : Nat → Bool} {N k k' : Nat} (h1 : bst Q N 0 k) (h2 : bsm Q N (N + 1) k') : k = k' := by
  rcases h1 with ⟨a1, a2⟩ | ⟨a1, a2, -, a3⟩
  · rcases h2 with ⟨b1, b2⟩ | ⟨b1, -, b2, b3⟩
    · omega
    · exact absurd b2 (a2 k' b1 (Nat.zero_le _))
  · rcases h2 with ⟨b1, b2⟩ | ⟨b1, -, b2, b3⟩
    · exact absurd a2 (b2 k (by omega) a1)
    · have := a3 k' b1 (Nat.zero_le _) b2
      have := b3 k (by omega) a1 a2
      omega
theorem q_screws {kind m cell broken fell : Nat → Int32} {count hour : Int32} {taken walls : Int64} {psteps pstack bsteps : Nat → Int32} {pcnt bcnt : Int32} {R E E2 : Nat → Int32} (hT : RTh kind m cell broken fell count taken walls R) (hh : RHr hour R) (hc : RCd psteps pcnt 155 R) (hb : RCd bsteps bcnt 276 R) (hE : ErR E E2) (a b c : Int32) (tk tm tc tb tf : Nat → Int32) (tn : Int32) (tt : Int64) (tp B F f : Nat → Int32) :
    ∃ r st' tk' tm' tc' tb' tf' tn' tt' tp' E' R' B' E2' F' f', s_X_screws a b c kind m cell broken fell count taken walls hour psteps pstack pcnt tk tm tc tb tf tn tt tp E = some (r, st', tk', tm', tc', tb', tf', tn', tt', tp', E') ∧ s_M_screws a b c R B E2 F f = some (r, R', B', E2', F', f') ∧ ErR E' E2' ∧ (∀ j, j < 397 → R' j = R j) := by
  obtain ⟨E1, F1, x1, x2, x3⟩ := p_err hE (k := 1) (by omega)
  obtain ⟨n, K, M, C, h, hbr, hf, hu⟩ := id hT
  obtain ⟨hn, h1, h2, -⟩ := id h
  obtain ⟨hr, hr1, rfl, hr2⟩ := id hh
  obtain ⟨len, o, v, d, hc⟩ := hc
  obtain ⟨len2, o2, v2, d2, hb⟩ := hb
  subst h1
  have oX : s_X_screws_c29 pstack tk tm tc tb tf tn tt tp E = some (eL 1, pstack, tk, tm, tc, tb, tf, tn, tt, tp, E1) := by
    unfold s_X_screws_c29
    rw [show (1 : Int32) = nI 1 from rfl, x1, p_b2]
  have oM : s_M_screws_c28 R B E2 F f = some (eL 1, R, B, F1, F, f) := by
    unfold s_M_screws_c28
    rw [show (-1000000001 : Int32) = eL 1 from by decide, x2, p_b2]
  rcases p_rg a 1 60 (by omega) (by omega) with ⟨hM, -⟩ | ⟨m1, -, hm, rfl, hM, -⟩
  · refine ⟨eL 1, pstack, tk, tm, tc, tb, tf, tn, tt, tp, E1, R, B, F1, F, f, ?_, ?_, x3, fun _ _ => rfl⟩
    · unfold s_X_screws
      exact ((p_rg2 _ _).1 hM).trans oX
    · unfold s_M_screws
      rw [show s_M_in a (1 : Int32) (60 : Int32) = some 0 from hM, p_b1, if_pos rfl, oM]
  · rcases p_rg b 0 5 (by omega) (by omega) with ⟨hM2, -⟩ | ⟨mo, -, hmo, rfl, hM2, -⟩
    · refine ⟨eL 1, pstack, tk, tm, tc, tb, tf, tn, tt, tp, E1, R, B, F1, F, f, ?_, ?_, x3, fun _ _ => rfl⟩
      · unfold s_X_screws
        refine ((p_rg2 _ _).2 hM).trans ?_
        exact ((p_rg2 _ _).1 hM2).trans oX
      · unfold s_M_screws
        rw [show s_M_in (nI m1) (1 : Int32) (60 : Int32) = some 1 from hM, p_b1, if_neg (show ¬ (1 : Int32) = 0 by decide), show s_M_in b (0 : Int32) (5 : Int32) = some 0 from hM2, p_b1, if_pos rfl, oM]
    · rcases p_rg c 0 1 (by omega) (by omega) with ⟨hM3, hX⟩ | ⟨p3, -, hp3, rfl, hM3, hX⟩
      · refine ⟨eL 1, pstack, tk, tm, tc, tb, tf, tn, tt, tp, E1, R, B, F1, F, f, ?_, ?_, x3, fun _ _ => rfl⟩
        · unfold s_X_screws
          refine ((p_rg2 _ _).2 hM).trans ?_
          refine ((p_rg2 _ _).2 hM2).trans ?_
          exact (hX _ _).trans oX
        · unfold s_M_screws
          rw [show s_M_in (nI m1) (1 : Int32) (60 : Int32) = some 1 from hM, p_b1, if_neg (show ¬ (1 : Int32) = 0 by decide), show s_M_in (nI mo) (0 : Int32) (5 : Int32) = some 1 from hM2, p_b1, if_neg (show ¬ (1 : Int32) = 0 by decide), show s_M_in c (0 : Int32) (1 : Int32) = some 0 from hM3, p_b1, if_pos rfl, oM]
      · obtain ⟨pulls', st', y1, y2⟩ := p_fores (h := hr) (n := nI n) (m := m1) (by omega) hc 400 m1 0 tp pstack (by omega) (by omega) (fun j hj => absurd hj (Nat.not_lt_zero _))
        obtain ⟨B', w1, w2⟩ := p_thinks R B
        obtain ⟨Q, hQ⟩ := Classical.axiomOfChoice (fun k : Nat => p_calmQ (cell := cell) (broken := broken) (fell := fell) (taken := taken) (pulls := pulls') (R0 := R) (B := B') (show m1 ≤ 100 by omega) (show mo ≤ 36 by omega) y2 hr2 h hc hb w2 (nI k))
        obtain ⟨t1, t2, -, t4, -⟩ := p_top n hn
        obtain ⟨k, tk', tm', tc', tb', tf', tn', tt', b1, b2⟩ := p_outer (N := 2 ^ n - 1) (m := m1) (mo := mo) (p3 := p3) (pst := st') (E := E) hn rfl (fun k _ => (hQ k).1) 400 n 0 tk tm tc tb tf tn tt (by omega) (by omega)
        obtain ⟨k', R', F', f', c1, c2, c3⟩ := p_msearch (N := 2 ^ n - 1) (m := m1) (mo := mo) (p3 := p3) (R0 := R) (B := B') (E2 := E2) hn rfl h2 (fun k _ => (hQ k).2) 400 (2 ^ n - 1 + 1) 0 (2 ^ n - 1) R F f (by omega) (by omega) (Or.inl ⟨rfl, fun j j1 => absurd j1 (Nat.not_lt_zero _)⟩) (fun _ _ => rfl)
        have ek : k = k' := p_uniq b1 c1
        subst ek
        refine ⟨if nI p3 = 0 then nI (bcn 6 k) else nI k, st', tk', tm', tc', tb', tf', tn', tt', pulls', E, R', B', E2, F', f', ?_, ?_, hE, c3⟩
        · unfold s_X_screws
          refine ((p_rg2 _ _).2 hM).trans ?_
          refine ((p_rg2 _ _).2 hM2).trans ?_
          refine (hX _ _).trans ?_
          unfold s_Thought_foresee
          rw [show s_Thought_foresee_c3 (nI hr) (nI m1) (nI n) psteps pcnt 400 (0 : Int32) tp pstack = some (pulls', st') from y1, p_b2, t4]
          exact b2
        · unfold s_M_screws
          rw [show s_M_in (nI m1) (1 : Int32) (60 : Int32) = some 1 from hM, p_b1, if_neg (show ¬ (1 : Int32) = 0 by decide), show s_M_in (nI mo) (0 : Int32) (5 : Int32) = some 1 from hM2, p_b1, if_neg (show ¬ (1 : Int32) = 0 by decide), show s_M_in (nI p3) (0 : Int32) (1 : Int32) = some 1 from hM3, p_b1, if_neg (show ¬ (1 : Int32) = 0 by decide), w1, p_b1, show (2 : Int32).toNatClampNeg = 2 from rfl, h2, t4]
          exact c2
