/-! pure 8: an hour that is only thought, some being held -/
theorem r_think {n w : Nat} {i held : Int32} {K M : Nat → Nat} {kind m pulls : Nat → Int32} {count : Int32} {walls : Int64} {len : Nat} {o v d : Nat → Nat} {bsteps : Nat → Int32} {bcnt : Int32} (hw : w < 4) (hp : s_Thought_pullOf i pulls = some (nI w)) :
    ∀ (fuel fuel' q t a : Nat) (C Fl : Nat → Nat) (cell fell : Nat → Int32) (taken : Int64) (R F f : Nat → Int32), t + q = n → q < fuel → q < fuel' → ThR n K M C kind m cell count taken walls R → (∀ u, u < t → fell u = nI (Fl u) ∧ R (45 + 5 * u) = nI (Fl u) ∧ Fl u ≤ 36) → a ≤ 36 → (∀ mo, a ≤ mo ↔ ∀ u, u < t → Fl u ≤ mo) → CdR len o v d bsteps bcnt 276 R →
    ∃ (a' : Nat) (C' Fl' : Nat → Nat) (cell' fell' : Nat → Int32) (tk' : Int64) (R' F' f' : Nat → Int32), s_Thought_passHour_c6 i held kind m count pulls walls fuel (nI a) (nI t) cell fell taken = some (nI a', cell', fell', tk') ∧ s_M_goes_c2 (nI w) held fuel' (nI t) R F f = some (upd R' 0 (R' 0 + 1), F', f') ∧ ThR n K M C' kind m cell' count tk' walls R' ∧ (∀ u, u < n → fell' u = nI (Fl' u) ∧ R' (45 + 5 * u) = nI (Fl' u) ∧ Fl' u ≤ 36) ∧ a' ≤ 36 ∧ (∀ mo, a' ≤ mo ↔ ∀ u, u < n → Fl' u ≤ mo) ∧ kf R R' := by
  intro fuel
  induction fuel with
  | zero => intro fuel' q t a C Fl cell fell taken R F f _ h; exact absurd h (Nat.not_lt_zero _)
  | succ fuel ih =>
    intro fuel' q t a C Fl cell fell taken R F f htq hq hq' h hfl ha36 ha hc
    cases fuel' with
    | zero => exact absurd hq' (Nat.not_lt_zero _)
    | succ fuel' =>
    obtain ⟨hn, h1, h2, h3, h4, -⟩ := id h
    rw [s_Thought_passHour_c6, s_M_goes_c2, show (2 : Int32).toNatClampNeg = 2 from rfl, h2]
    cases q with
    | zero =>
      rw [h1, if_pos (nI_le (by omega) (by omega)), if_pos (nI_le (by omega) (by omega))]
      have : t = n := by omega
      subst this
      exact ⟨a, C, Fl, cell, fell, taken, R, F, f, rfl, rfl, h1 ▸ h, hfl, ha36, ha, kf_rf⟩
    | succ q =>
      have ht : t < n := by omega
      have tail : ∀ (k : Nat) (C1 : Nat → Nat) (cell1 : Nat → Int32) (tk1 : Int64) (R1 : Nat → Int32), k ≤ 36 → ThR n K M C1 kind m cell1 count tk1 walls R1 → kp R R1 →
          ∃ (a' : Nat) (C' Fl' : Nat → Nat) (cell' fell' : Nat → Int32) (tk' : Int64) (R' F' f' : Nat → Int32), s_Thought_passHour_c77 (s_Thought_passHour_c6 i held kind m count pulls walls fuel) (nI a) (nI t) fell (nI t) (nI k) cell1 tk1 = some (nI a', cell', fell', tk') ∧ s_M_goes_c34 (s_M_goes_c2 (nI w) held fuel') (nI t) F f (nI t) (4 : Int32) (nI k) R1 = some (upd R' 0 (R' 0 + 1), F', f') ∧ ThR n K M C' kind m cell' count tk' walls R' ∧ (∀ u, u < n → fell' u = nI (Fl' u) ∧ R' (45 + 5 * u) = nI (Fl' u) ∧ Fl' u ≤ 36) ∧ a' ≤ 36 ∧ (∀ mo, a' ≤ mo ↔ ∀ u, u < n → Fl' u ≤ mo) ∧ kf R R' := by
        intro k C1 cell1 tk1 R1 hk a4 a5
        have hc1 : CdR len o v d bsteps bcnt 276 R1 := CdR_on hc (fun j q1 q2 => a5 j (fun t ht => by omega))
        obtain ⟨F1, f1, hg⟩ := p_goes34 a4 ht (k := k) hc1 (s_M_goes_c2 (nI w) held fuel') F f
        rw [hg]
        unfold s_Thought_passHour_c77 j_let
        rw [p_chk (by omega) (by omega), p_chk (by omega) (by omega), nI_clamp (by omega), pk_us, nI_1]
        have hmax : (if nI a < nI k then nI k else nI a) = nI (if a < k then k else a) := by
          by_cases z : a < k
          · rw [if_pos z, if_pos (nI_lt z (by omega))]
          · rw [if_neg z, if_neg (nI_nlt (by omega) (by omega))]
        rw [hmax]
        have hRR : ∃ R2, (if brv len o v d (nI k) (nI (M t)) (nI (K t)) = true then upd (upd R1 (45 + 5 * t) (nI k)) (44 + 5 * t) 1 else upd R1 (45 + 5 * t) (nI k)) = R2 ∧ R2 (45 + 5 * t) = nI k ∧ (∀ j, j ≠ 44 + 5 * t → j ≠ 45 + 5 * t → R2 j = R1 j) := by
          refine ⟨_, rfl, ?_, fun j y1 y2 => ?_⟩
          · by_cases z : brv len o v d (nI k) (nI (M t)) (nI (K t)) = true
            · rw [if_pos z, pk_un (by omega), pk_us]
            · rw [if_neg z, pk_us]
          · by_cases z : brv len o v d (nI k) (nI (M t)) (nI (K t)) = true
            · rw [if_pos z, pk_un y1, pk_un y2]
            · rw [if_neg z, pk_un y2]
        obtain ⟨R2, e2, f2, g2⟩ := hRR
        rw [e2]
        have h' : ThR n K M C1 kind m cell1 count tk1 walls R2 := ThR_on a4 (fun j _ q2 _ => by
          have := q2 t (by omega)
          exact g2 j this.1 this.2)
        obtain ⟨a', C', Fl', cell', fell', tk', R', F', f', b1, b2, b3, b4, b5, b6, b7⟩ := ih fuel' q (t + 1) (if a < k then k else a) C1 (fun u => if u = t then k else Fl u) cell1 (upd fell t (nI k)) tk1 R2 F1 f1 (by omega) (by omega) (by omega) h' (fun u hu => by
          by_cases z : u = t
          · subst z
            rw [if_pos rfl, pk_us]
            exact ⟨rfl, f2, hk⟩
          · rw [if_neg z, pk_un z, g2 _ (by omega) (by omega), a5 _ (fun t ht => by omega)]
            exact hfl u (by omega)) (by by_cases z : a < k
                                        · rw [if_pos z]; exact hk
                                        · rw [if_neg z]; exact ha36) (fun mo => by
          have h5 := ha mo
          constructor
          · intro h6 u hu
            by_cases z : u = t
            · rw [if_pos z]
              by_cases y : a < k
              · rw [if_pos y] at h6; exact h6
              · rw [if_neg y] at h6; omega
            · rw [if_neg z]
              refine h5.mp ?_ u (by omega)
              by_cases y : a < k
              · rw [if_pos y] at h6; omega
              · rw [if_neg y] at h6; exact h6
          · intro h6
            have h7 := h6 t (by omega)
            rw [if_pos rfl] at h7
            have h8 : a ≤ mo := h5.mpr (fun u hu => by
              have := h6 u (by omega)
              rw [if_neg (by omega)] at this
              exact this)
            by_cases y : a < k
            · rw [if_pos y]; exact h7
            · rw [if_neg y]; exact h8) (CdR_on hc1 (fun j q1 q2 => g2 j (by omega) (by omega)))
        refine ⟨a', C', Fl', cell', fell', tk', R', F', f', b1, b2, b3, b4, b5, b6, ?_⟩
        exact kf_tr (kf_kp a5) (kf_tr (fun j hj => g2 j (by omega) (by omega)) b7)
      rw [if_neg (by rw [h1]; exact nI_ge ht (by omega)), if_neg (nI_ge ht (by omega)), if_neg (show ¬ (6 : Int32) ≤ nI t from nI_ge (b := 6) (by omega) (by omega))]
      obtain ⟨j, hj, ej⟩ := pk_andE (held >>> (nI t &&& 31)) (m := 1) 1 (by decide)
      rw [ej]
      unfold s_Thought_passHour_c39
      rcases (show j = 0 ∨ j = 1 by omega) with e | e
      · subst e
        obtain ⟨k, C1, cell1, tk1, R1, a1, a2, a3, a4, a5⟩ := r_fall h ht hw
        rw [if_pos (show nI 0 = (0 : Int32) from rfl), if_pos (show (0 : Int32) = 0 from rfl), if_neg (show ¬ nI 0 = (1 : Int32) by decide), hp, p_b1, a2, p_b3, a3, p_b2]
        exact tail k C1 cell1 tk1 R1 a1 a4 a5
      · subst e
        rw [if_neg (show ¬ nI 1 = (0 : Int32) by decide), if_neg (show ¬ (1 : Int32) = 0 by decide), if_pos (show nI 1 = (1 : Int32) from rfl)]
        exact tail 0 C cell taken R (by omega) h kp_rf
