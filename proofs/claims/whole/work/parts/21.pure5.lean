/-! pure 7: an hour -/
def kf (R R' : Nat → Int32) : Prop := ∀ j, (j < 41 ∨ 70 < j) → R' j = R j
theorem kf_rf {R : Nat → Int32} : kf R R := fun _ _ => rfl
theorem kf_tr {R R1 R2 : Nat → Int32} (h1 : kf R R1) (h2 : kf R1 R2) : kf R R2 := fun j hj => (h2 j hj).trans (h1 j hj)
theorem kf_kp {R R1 : Nat → Int32} (h : kp R R1) : kf R R1 := fun j hj => h j (fun t ht => by omega)
theorem kf_upd {R : Nat → Int32} {k : Nat} {x : Int32} (h : 41 ≤ k ∧ k ≤ 70) : kf R (upd R k x) := fun j hj => pk_un (by omega)
theorem CdR_on {len : Nat} {o v d : Nat → Nat} {steps : Nat → Int32} {cnt : Int32} {base : Nat} {R R' : Nat → Int32} (h : CdR len o v d steps cnt base R) (hR : ∀ j, base ≤ j → j < base + 121 → R' j = R j) : CdR len o v d steps cnt base R' := by
  obtain ⟨h1, h2, h3, h4, h5⟩ := h
  refine ⟨h1, h2, by rw [hR base (by omega) (by omega)]; exact h3, h4, fun k hk => ?_⟩
  rw [hR (base + 1 + k) (by omega) (by omega), hR (base + 61 + k) (by omega) (by omega)]
  exact h5 k hk
theorem ThR_on {n : Nat} {K M C : Nat → Nat} {kind m cell : Nat → Int32} {count : Int32} {taken walls : Int64} {R R' : Nat → Int32} (h : ThR n K M C kind m cell count taken walls R) (hR : ∀ j, j < 71 → (∀ t, t < 6 → j ≠ 44 + 5 * t ∧ j ≠ 45 + 5 * t) → j ≠ 0 → R' j = R j) : ThR n K M C kind m cell count taken walls R' := by
  obtain ⟨hn, h1, h2, h3, h4, h5, h6, h7, h8, h9⟩ := h
  refine ⟨hn, h1, ?_, fun t ht => ?_, fun t ht => ?_, fun t ht => ?_, h6, h7, h8, fun c hc => ?_⟩
  · rw [hR 2 (by omega) (fun t ht => by omega) (by omega)]; exact h2
  · rw [hR _ (by omega) (fun t ht => by omega) (by omega)]; exact h3 t ht
  · rw [hR _ (by omega) (fun t ht => by omega) (by omega)]; exact h4 t ht
  · rw [hR _ (by omega) (fun t ht => by omega) (by omega)]; exact h5 t ht
  · rw [hR _ (by omega) (fun t ht => by omega) (by omega)]; exact h9 c hc
theorem p_b01 (b : Bool) : ((if b = true then (1 : Int32) else 0) = 0 ↔ b = false) ∧ ((if b = true then (1 : Int32) else 0) = 1 ↔ b = true) := by
  cases b <;> decide
/-- what the model does at a thing behind its fall -/
theorem p_goes34 {n t k : Nat} {K M C : Nat → Nat} {kind m cell : Nat → Int32} {count : Int32} {taken walls : Int64} {R : Nat → Int32} (h : ThR n K M C kind m cell count taken walls R) (ht : t < n) {len : Nat} {o v d : Nat → Nat} {steps : Nat → Int32} {cnt : Int32} (hc : CdR len o v d steps cnt 276 R) (K2 : Int32 → (Nat → Int32) → (Nat → Int32) → (Nat → Int32) → Option ((Nat → Int32) × (Nat → Int32) × (Nat → Int32))) (F f : Nat → Int32) :
    ∃ F' f', s_M_goes_c34 K2 (nI t) F f (nI t) (4 : Int32) (nI k) R = K2 (nI (t + 1)) (if brv len o v d (nI k) (nI (M t)) (nI (K t)) = true then upd (upd R (45 + 5 * t) (nI k)) (44 + 5 * t) 1 else upd R (45 + 5 * t) (nI k)) F' f' := by
  obtain ⟨hn, h1, h2, h3, h4, h5, h6, h7, h8, h9⟩ := h
  have hc2 : CdR len o v d steps cnt 276 (upd R (45 + 5 * t) (nI k)) := CdR_on hc (fun j q1 q2 => pk_un (by omega))
  obtain ⟨F', f', hg⟩ := r_gives1 hc2 (nI k) (nI (M t)) (nI (K t)) F f
  refine ⟨F', f', ?_⟩
  unfold s_M_goes_c34
  have e4 : s_M_of (nI t) (4 : Int32) (upd R (45 + 5 * t) (nI k)) = some (nI k) := by
    rw [p_lit 4, p_of (by omega) (by omega), show 41 + 5 * t + 4 = 45 + 5 * t by omega, pk_us]
  have e1 : s_M_of (nI t) (1 : Int32) (upd R (45 + 5 * t) (nI k)) = some (nI (M t)) := by
    rw [p_lit 1, p_of (by omega) (by omega), show 41 + 5 * t + 1 = 42 + 5 * t by omega, pk_un (by omega), (h4 t ht).2.2]
  have e0 : s_M_of (nI t) (0 : Int32) (upd R (45 + 5 * t) (nI k)) = some (nI (K t)) := by
    rw [p_lit 0, p_of (by omega) (by omega), Nat.add_zero, pk_un (by omega), (h3 t ht).2.2]
  have el : s_M_lay (nI t) (4 : Int32) (nI k) R = some (upd R (45 + 5 * t) (nI k)) := by
    rw [p_lit 4, p_lay _ (by omega) (by omega), show 41 + 5 * t + 4 = 45 + 5 * t by omega]
  rw [el, p_b1, e4, p_b1, e1, p_b1, e0, p_b1, show s_M_gives (1 : Int32) (nI k) (nI (M t)) (nI (K t)) (upd R (45 + 5 * t) (nI k)) F f = _ from hg, p_b3]
  unfold s_M_goes_c71
  by_cases q : brv len o v d (nI k) (nI (M t)) (nI (K t)) = true
  · rw [if_pos ((p_b01 _).2.mpr q), if_pos q, show s_M_lay (nI t) (3 : Int32) (1 : Int32) (upd R (45 + 5 * t) (nI k)) = some (upd (upd R (45 + 5 * t) (nI k)) (44 + 5 * t) 1) from by rw [p_lit 3, p_lay _ (by omega) (by omega), show 41 + 5 * t + 3 = 44 + 5 * t by omega], p_b1, nI_1]
  · rw [if_neg (fun z => q ((p_b01 _).2.mp z)), if_neg q, nI_1]
theorem p_sh0 : ∀ t, t < 6 → (((0 : Int32) >>> (nI t &&& 31)) &&& (1 : Int32)) = 0 := by decide +kernel
theorem r_goes {n w : Nat} {K M : Nat → Nat} {kind m : Nat → Int32} {count hour : Int32} {walls : Int64} {len : Nat} {o v d : Nat → Nat} {bsteps : Nat → Int32} {bcnt : Int32} (hw : w < 4) :
    ∀ (fuel fuel' q t : Nat) (C : Nat → Nat) (cell broken fell : Nat → Int32) (taken : Int64) (bstack R F f : Nat → Int32), t + q = n → q < fuel → q < fuel' → ThR n K M C kind m cell count taken walls R → (∀ u, u < n → broken u = R (44 + 5 * u)) → (∀ u, u < n → fell u = R (45 + 5 * u)) → CdR len o v d bsteps bcnt 276 R →
    ∃ C' cell' broken' fell' tk' st' R' F' f', s_House_passHour_c2 (nI w) kind m count walls hour bsteps bcnt fuel (nI t) cell broken fell taken bstack = some (cell', broken', fell', tk', hour + 1, st') ∧ s_M_goes_c2 (nI w) 0 fuel' (nI t) R F f = some (upd R' 0 (R' 0 + 1), F', f') ∧ ThR n K M C' kind m cell' count tk' walls R' ∧ (∀ u, u < n → broken' u = R' (44 + 5 * u)) ∧ (∀ u, u < n → fell' u = R' (45 + 5 * u)) ∧ kf R R' := by
  intro fuel
  induction fuel with
  | zero => intro fuel' q t C cell broken fell taken bstack R F f _ h; exact absurd h (Nat.not_lt_zero _)
  | succ fuel ih =>
    intro fuel' q t C cell broken fell taken bstack R F f htq hq hq' h hb hf hc
    cases fuel' with
    | zero => exact absurd hq' (Nat.not_lt_zero _)
    | succ fuel' =>
    obtain ⟨hn, h1, h2, h3, h4, -⟩ := id h
    rw [s_House_passHour_c2, s_M_goes_c2, show (2 : Int32).toNatClampNeg = 2 from rfl, h2, h1]
    cases q with
    | zero =>
      rw [if_pos (nI_le (by omega) (by omega)), if_pos (nI_le (by omega) (by omega))]
      exact ⟨C, cell, broken, fell, taken, bstack, R, F, f, rfl, rfl, h1 ▸ h, hb, hf, kf_rf⟩
    | succ q =>
      have ht : t < n := by omega
      have e1 : ¬ (((0 : Int32) >>> (nI t &&& 31)) &&& (1 : Int32)) = 1 := by rw [p_sh0 t (by omega)]; decide
      rw [if_neg (nI_ge ht (by omega)), if_neg (nI_ge ht (by omega)), if_neg (show ¬ (6 : Int32) ≤ nI t from nI_ge (b := 6) (by omega) (by omega)), if_neg e1]
      obtain ⟨k, C1, cell1, tk1, R1, a1, a2, a3, a4, a5⟩ := r_fall h ht hw
      rw [h1] at a2
      rw [a2, p_b3, a3, p_b2, nI_clamp (by omega), p_chk (by omega) (by omega), p_chk (by omega) (by omega), p_chk (by omega) (by omega), p_chk (by omega) (by omega), pk_us, (h4 t ht).1, (h3 t ht).1]
      have hc1 : CdR len o v d bsteps bcnt 276 R1 := CdR_on hc (fun j q1 q2 => a5 j (fun t ht => by omega))
      obtain ⟨st1, hbr⟩ := r_breaksBy hc1 (nI k) (nI (M t)) (nI (K t)) bstack
      obtain ⟨F1, f1, hg⟩ := p_goes34 a4 ht (k := k) hc1 (s_M_goes_c2 (nI w) 0 fuel') F f
      rw [hbr, p_b2, hg]
      unfold s_House_passHour_c85
      have hb1 : ∀ u, u < n → broken u = R1 (44 + 5 * u) := fun u hu => by rw [a5 _ (fun t ht => by omega)]; exact hb u hu
      have hf1 : ∀ u, u < n → (upd fell t (nI k)) u = (upd R1 (45 + 5 * t) (nI k)) (45 + 5 * u) := fun u hu => by
        by_cases z : u = t
        · rw [z, pk_us, pk_us]
        · rw [pk_un z, pk_un (by omega), a5 _ (fun t ht => by omega)]; exact hf u hu
      by_cases z : brv len o v d (nI k) (nI (M t)) (nI (K t)) = true
      · rw [if_neg (fun y => by rw [(p_b01 _).1] at y; rw [z] at y; cases y), if_pos z, p_chk (by omega) (by omega), nI_1]
        have h' : ThR n K M C1 kind m cell1 count tk1 walls (upd (upd R1 (45 + 5 * t) (nI k)) (44 + 5 * t) 1) := ThR_on a4 (fun j _ q2 _ => by
          have := q2 t (by omega)
          rw [pk_un this.1, pk_un this.2])
        obtain ⟨C', cell', broken', fell', tk', st', R', F', f', b1, b2, b3, b4, b5, b6⟩ := ih fuel' q (t + 1) C1 cell1 (upd broken t 1) (upd fell t (nI k)) tk1 st1 (upd (upd R1 (45 + 5 * t) (nI k)) (44 + 5 * t) 1) F1 f1 (by omega) (by omega) (by omega) h' (fun u hu => by
            by_cases y : u = t
            · rw [y, pk_us, pk_us]
            · rw [pk_un y, pk_un (by omega), pk_un (by omega)]; exact hb1 u hu) (fun u hu => (hf1 u hu).trans (pk_un (by omega)).symm) (CdR_on hc1 (fun j q1 q2 => by rw [pk_un (by omega), pk_un (by omega)]))
        rw [h1] at b1
        exact ⟨C', cell', broken', fell', tk', st', R', F', f', b1, b2, h1 ▸ b3, b4, b5, kf_tr (kf_kp a5) (kf_tr (kf_upd (by omega)) (kf_tr (kf_upd (by omega)) b6))⟩
      · rw [if_pos ((p_b01 _).1.mpr (by simpa using z)), if_neg z, nI_1]
        have h' : ThR n K M C1 kind m cell1 count tk1 walls (upd R1 (45 + 5 * t) (nI k)) := ThR_on a4 (fun j _ q2 _ => by
          have := q2 t (by omega)
          rw [pk_un this.2])
        obtain ⟨C', cell', broken', fell', tk', st', R', F', f', b1, b2, b3, b4, b5, b6⟩ := ih fuel' q (t + 1) C1 cell1 broken (upd fell t (nI k)) tk1 st1 (upd R1 (45 + 5 * t) (nI k)) F1 f1 (by omega) (by omega) (by omega) h' (fun u hu => by
            rw [pk_un (by omega)]; exact hb1 u hu) hf1 (CdR_on hc1 (fun j q1 q2 => by rw [pk_un (by omega)]))
        rw [h1] at b1
        exact ⟨C', cell', broken', fell', tk', st', R', F', f', b1, b2, h1 ▸ b3, b4, b5, kf_tr (kf_kp a5) (kf_tr (kf_upd (by omega)) b6)⟩
