/-! pure 19: the fewest screws -/
theorem p_bq {b c : Bool} (h : (if b = true then (1 : Int32) else 0) = (if c = true then 1 else 0)) : b = c := by
  cases b <;> cases c <;> first | rfl | exact absurd h (by decide)
theorem p_calmQ {n m mo h : Nat} {K M C : Nat → Nat} {kind mm cell broken fell pulls : Nat → Int32} {taken walls : Int64} {len len2 : Nat} {o v d o2 v2 d2 : Nat → Nat} {psteps bsteps : Nat → Int32} {pcnt bcnt : Int32} {R0 B : Nat → Int32} (hm : m ≤ 100) (hmo : mo ≤ 36) (hp : ∀ j, j < m → pulls j = nI (plv len o v d (nI (h + j)) (nI (h + j) / 12) (nI n))) (h0 : R0 0 = nI h) (hT : ThR n K M C kind mm cell (nI n) taken walls R0) (hc1 : CdR len o v d psteps pcnt 155 R0) (hc2 : CdR len2 o2 v2 d2 bsteps bcnt 276 R0) (hB : ∀ j, j < 397 → B j = R0 j) (held : Int32) :
    ∃ b : Bool, (∀ (tk tm tc tb tf : Nat → Int32) (tn : Int32) (tt : Int64), ∃ tk' tm' tc' tb' tf' tt', s_Thought_staysWithin (nI m) (nI mo) held tk tm tc tb tf tn tt pulls kind mm cell broken fell (nI n) taken walls = some (if b = true then 1 else 0, tk', tm', tc', tb', tf', nI n, tt')) ∧ (∀ R F f : Nat → Int32, (∀ j, j < 397 → R j = R0 j) → ∃ R' F' f', s_M_isCalm held (nI m) (nI mo) R B F f = some (if b = true then 1 else 0, R', F', f') ∧ ∀ j, j < 397 → R' j = R0 j) := by
  obtain ⟨b, cc, cf, ct, cR, cF, cff, a1, a2, a3⟩ := p_calm (held := held) (broken := broken) (B := B) hm hmo hp 400 400 m 0 C cell fell taken R0 (fun _ => 0) (fun _ => 0) (by omega) (by omega) (by omega) h0 hT hc1 hc2
  refine ⟨b, fun tk tm tc tb tf tn tt => ?_, fun R F f hR => ?_⟩
  · obtain ⟨k', m', c', b', f', z1, z2⟩ := p_takeOver tk tm tc tb tf kind mm cell broken fell tn (nI n) tt taken
    obtain ⟨b1, c1, f1, t1, R1, F1, ff1, x1, x2, x3⟩ := p_calm (held := held) (kind := k') (mm := m') (broken := b') (B := B) hm hmo hp 400 400 m 0 C c' f' taken R0 (fun _ => 0) (fun _ => 0) (by omega) (by omega) (by omega) h0 (ThR_ag hT (fun u hu => ⟨(z2 u hu).1, (z2 u hu).2.1, (z2 u hu).2.2.1⟩)) hc1 hc2
    have e : b1 = b := by
      rw [x2] at a2
      exact p_bq (congrArg Prod.fst (Option.some.inj a2))
    subst e
    refine ⟨k', m', c1, b', f1, t1, ?_⟩
    unfold s_Thought_staysWithin
    rw [z1, p_b7]
    exact x1
  · obtain ⟨b1, c1, f1, t1, R1, F1, ff1, x1, x2, x3⟩ := p_calm (held := held) (broken := broken) (B := B) hm hmo hp 400 400 m 0 C cell fell taken R F f (by omega) (by omega) (by omega) (by rw [hR 0 (by omega)]; exact h0) (ThR_on hT (fun j hj _ _ => hR j (by omega))) (CdR_on hc1 (fun j j1 j2 => hR j (by omega))) (CdR_on hc2 (fun j j1 j2 => hR j (by omega)))
    have e : b1 = b := by
      rw [x1] at a1
      exact p_bq (congrArg Prod.fst (Option.some.inj a1))
    subst e
    refine ⟨R1, F1, ff1, ?_, fun j hj => (x3 j hj).trans (hB j hj)⟩
    unfold s_M_isCalm
    exact x2
/-- the first of the numbers below N, from k on, that has c bits and is calm -/
def fQ (Q : Nat → Bool) (c : Nat) : Nat → Nat → Option Nat
  | 0, _ => none
  | q + 1, k => if bcn 6 k = c ∧ Q k = true then some k else fQ Q c q (k + 1)
theorem p_inner {N c m mo n p3 : Nat} {Q : Nat → Bool} {kind mm cell broken fell pulls pst E : Nat → Int32} {taken walls : Int64} (hN : N < 64) (hc : c ≤ 6) (K : Int32 → (Nat → Int32) → (Nat → Int32) → (Nat → Int32) → (Nat → Int32) → (Nat → Int32) → Int32 → Int64 → (Option (Int32 × (Nat → Int32) × (Nat → Int32) × (Nat → Int32) × (Nat → Int32) × (Nat → Int32) × (Nat → Int32) × Int32 × Int64 × (Nat → Int32) × (Nat → Int32))))
    (hQ : ∀ k, k < 64 → ∀ (tk tm tc tb tf : Nat → Int32) (tn : Int32) (tt : Int64), ∃ tk' tm' tc' tb' tf' tt', s_Thought_staysWithin (nI m) (nI mo) (nI k) tk tm tc tb tf tn tt pulls kind mm cell broken fell (nI n) taken walls = some (if Q k = true then 1 else 0, tk', tm', tc', tb', tf', nI n, tt')) :
    ∀ (fuel q k : Nat) (tk tm tc tb tf : Nat → Int32) (tn : Int32) (tt : Int64), k + q = N → q < fuel → ∃ tk' tm' tc' tb' tf' tn' tt', s_X_screws_c87 K (nI m) (nI mo) (nI p3) (nI N) (nI c) kind mm cell broken fell (nI n) taken walls pst pulls E fuel (nI k) tk tm tc tb tf tn tt = (match fQ Q c q k with
      | none => K (nI c + 1) tk' tm' tc' tb' tf' tn' tt'
      | some k' => some (if nI p3 = 0 then nI c else nI k', pst, tk', tm', tc', tb', tf', tn', tt', pulls, E)) := by
  intro fuel
  induction fuel with
  | zero => intro q k tk tm tc tb tf tn tt _ h; exact absurd h (Nat.not_lt_zero _)
  | succ fuel ih =>
    intro q k tk tm tc tb tf tn tt hq hf
    rw [s_X_screws_c87]
    cases q with
    | zero =>
      rw [if_pos (nI_le (by omega) (by omega))]
      exact ⟨tk, tm, tc, tb, tf, tn, tt, rfl⟩
    | succ q =>
      rw [if_neg (nI_ge (by omega) (by omega)), (p_bc k (by omega)).1, p_b1]
      unfold s_X_screws_c134
      rw [show nI k + (1 : Int32) = nI (k + 1) from nI_add k 1, fQ]
      by_cases e : bcn 6 k = c
      · rw [if_pos (by rw [e])]
        obtain ⟨tk', tm', tc', tb', tf', tt', y⟩ := hQ k (by omega) tk tm tc tb tf tn tt
        rw [y, p_b8]
        by_cases z : Q k = true
        · rw [if_pos (show bcn 6 k = c ∧ Q k = true from ⟨e, z⟩), if_pos z, if_neg (show ¬ (1 : Int32) = 0 by decide)]
          refine ⟨tk', tm', tc', tb', tf', nI n, tt', ?_⟩
          by_cases w : nI p3 = 0
          · rw [if_pos w]; simp only [if_pos w]
          · rw [if_neg w]; simp only [if_neg w]
        · rw [if_neg (show ¬ (bcn 6 k = c ∧ Q k = true) from fun y => z y.2), if_neg z, if_pos rfl]
          exact ih q (k + 1) _ _ _ _ _ _ _ (by omega) (by omega)
      · rw [if_neg (show ¬ nI (bcn 6 k) = nI c from fun y => e ((nI_eq (by have := (p_bc k (by omega)).2.2; omega) (by omega)).mp y)), if_neg (show ¬ (bcn 6 k = c ∧ Q k = true) from fun y => e y.1)]
        exact ih q (k + 1) _ _ _ _ _ _ _ (by omega) (by omega)
