/-! pure 36: text -/
theorem p_readC {L u : Nat} {st tp : Nat → Int32} (hL : L ≤ 60) : ∀ (fuel q i : Nat) (by0 : Nat → Int32), i + q = L → q < fuel → (∀ j, j < i → by0 j &&& 255 = tp j &&& 255) → ∃ by', (∀ j, j < L → by' j &&& 255 = tp j &&& 255) ∧ s_TextReader_read_c21 (nI u) st (nI L) tp fuel (nI i) by0 = j_b4 (s_TextReader_readRank 80 (0 : Int32) (0 : Int32) st (0 : Int32) (-1 : Int32) by' (nI L) (0 : Int32) (nI u)) (fun u1_steps u2_stepCount u3_fault u4_at => if nI L ≤ u4_at then (some (u1_steps, u2_stepCount, u3_fault, by', nI L, u4_at, nI u)) else (j_b1 (s_TextReader_refuse u3_fault u4_at) (fun u5_fault => some (u1_steps, u2_stepCount, u5_fault, by', nI L, u4_at, nI u)))) := by
  intro fuel
  induction fuel with
  | zero => intro q i by0 _ h; exact absurd h (Nat.not_lt_zero _)
  | succ fuel ih =>
    intro q i by0 hq hf hs
    rw [s_TextReader_read_c21]
    cases q with
    | zero =>
      rw [if_pos (nI_le (by omega) (by omega))]
      exact ⟨by0, fun j hj => hs j (by omega), rfl⟩
    | succ q =>
      rw [if_neg (nI_ge (by omega) (by omega)), p_chk (by omega) (by omega), p_chk (by omega) (by omega), nI_clamp (by omega), nI_1]
      refine ih q (i + 1) _ (by omega) (by omega) (fun j hj => ?_)
      by_cases y : j = i
      · rw [y, pk_us, p_byte]
      · rw [pk_un y]; exact hs j (by omega)
theorem p_wr {base s : Nat} {E2 ac wi : Nat → Int32} {he op bd us : Int32} (hs : s ≤ 60) (hb : base + 121 ≤ 397) : ∀ (fuel q i : Nat) (Rw : Nat → Int32), i + q = s → q < fuel → ∃ R', s_M_text_c117 (nI base) E2 ac wi (nI s) he op bd us fuel (nI i) Rw = some (1, R', E2, ac, wi, nI s, he, op, bd, us) ∧ (∀ j, (j ≤ base ∨ base + 121 ≤ j) → R' j = Rw j) ∧ (∀ k, k < i → R' (base + 1 + k) = Rw (base + 1 + k) ∧ R' (base + 61 + k) = Rw (base + 61 + k)) ∧ ∀ k, i ≤ k → k < s → R' (base + 1 + k) = ac k ∧ R' (base + 61 + k) = wi k := by
  intro fuel
  induction fuel with
  | zero => intro q i Rw _ h; exact absurd h (Nat.not_lt_zero _)
  | succ fuel ih =>
    intro q i Rw hq hf
    rw [s_M_text_c117]
    cases q with
    | zero =>
      rw [if_pos (nI_le (by omega) (by omega))]
      exact ⟨Rw, rfl, fun _ _ => rfl, fun _ _ => ⟨rfl, rfl⟩, fun k h1 h2 => absurd h1 (by omega)⟩
    | succ q =>
      rw [if_neg (nI_ge (by omega) (by omega)), nI_1, show nI base + (61 : Int32) = nI (base + 61) from nI_add base 61, nI_add, nI_add, p_chk (by omega) (by omega), p_chk (by omega) (by omega), p_chk (by omega) (by omega), p_chk (by omega) (by omega), nI_clamp (by omega), nI_clamp (by omega), nI_clamp (by omega), nI_1]
      obtain ⟨R', e1, e2, e3, e4⟩ := ih q (i + 1) (upd (upd Rw (base + 1 + i) (ac i)) (base + 61 + i) (wi i)) (by omega) (by omega)
      refine ⟨R', e1, fun j hj => by rw [e2 j hj, pk_un (by omega), pk_un (by omega)], fun k hk => ?_, fun k h1 h2 => ?_⟩
      · rw [(e3 k (by omega)).1, (e3 k (by omega)).2, pk_un (by omega), pk_un (by omega), pk_un (by omega), pk_un (by omega)]
        exact ⟨rfl, rfl⟩
      · rcases Nat.eq_or_lt_of_le h1 with e | e
        · subst e
          rw [(e3 i (by omega)).1, (e3 i (by omega)).2, pk_us, pk_un (by omega), pk_us]
          exact ⟨rfl, rfl⟩
        · exact e4 k e h2
theorem CdR_new {base s D : Nat} {st st' ac wi R' : Nat → Int32} (hs : s ≤ 60) (hw : Wf st ac wi s D) (h0 : R' base = nI s) (h1 : ∀ k, k < s → R' (base + 1 + k) = ac k ∧ R' (base + 61 + k) = wi k) (h2 : ∀ k, k < s → st' k = st k) : RCd st' (nI s) base R' := by
  obtain ⟨o, v, d, d1, d2, d3⟩ := Wf_cd s D hw
  refine ⟨s, o, v, d, hs, rfl, h0, d1, fun k hk => ?_⟩
  rw [(h1 k hk).1, (h1 k hk).2, h2 k hk]
  exact d3 k hk
theorem q_text {tape psteps bsteps rst rby ac wi R E E2 : Nat → Int32} {tl pcnt bcnt rcn rfa rle rat rus la he op bd us : Int32} (hp : RTp tape tl R) (hc : RCd psteps pcnt 155 R) (hb : RCd bsteps bcnt 276 R) (hE : ErR E E2) (a : Int32) :
    ∃ r tl' ps' pn' bs' bn' rst' rcn' rfa' rby' rle' rat' rus' E' R' E2' ac' wi' la' he' op' bd' us', s_X_text a tape tl psteps pcnt bsteps bcnt rst rcn rfa rby rle rat rus E = some (r, tl', ps', pn', bs', bn', rst', rcn', rfa', rby', rle', rat', rus', E') ∧ s_M_text a R E2 ac wi la he op bd us = some (r, R', E2', ac', wi', la', he', op', bd', us') ∧ RTp tape tl' R' ∧ RCd ps' pn' 155 R' ∧ RCd bs' bn' 276 R' ∧ ErR E' E2' ∧ (∀ j, j ≠ 3 → j < 155 → R' j = R j) := by
  obtain ⟨E1, F1, x1, x2, x3⟩ := p_err hE (k := 1) (by omega)
  unfold s_X_text s_M_text
  rcases p_use a with ⟨hX, hM⟩ | ⟨u, hu, rfl, hX, hM⟩
  · rw [hX, p_b1, if_pos rfl, show (1 : Int32) = nI 1 from rfl, x1, p_b2, show s_M_in a 0 (nI 1) = some 0 from hM, p_b1, if_pos rfl, show (-1000000001 : Int32) = eL 1 from by decide, x2, p_b2]
    exact ⟨_, _, _, _, _, _, _, _, _, _, _, _, _, _, _, _, _, _, _, _, _, _, _, rfl, rfl, hp, hc, hb, x3, fun _ _ _ => rfl⟩
  · obtain ⟨L, hL, rfl, hR3, htp⟩ := id hp
    have ej : j_min (nI L) (j_min (60 : Int32) (60 : Int32)) = nI L := by
      unfold j_min
      rw [if_neg (show ¬ (60 : Int32) < 60 by decide), if_neg (show ¬ (60 : Int32) < nI L from nI_nlt (a := 60) hL (by omega))]
    obtain ⟨by', b1, b2⟩ := p_readC (u := u) (st := rst) (tp := tape) hL 400 L 0 rby (by omega) (by omega) (fun j hj => absurd hj (Nat.not_lt_zero _))
    have hT : TpC L by' R := ⟨hL, hR3, fun i hi => by
      obtain ⟨b, c1, c2, c3⟩ := htp i hi
      exact ⟨b, c1, by rw [b1 i hi]; exact c2, c3⟩⟩
    obtain ⟨st1, ac1, wi1, p1, s1, q1, q2, q3, q4⟩ := t_both hT hu rst ac wi
    have empty : ∀ R', R' 3 = 0 → RTp tape 0 R' := fun R' z => ⟨0, by omega, rfl, z, fun i hi => absurd hi (Nat.not_lt_zero _)⟩
    have keepP : RCd psteps pcnt 155 (upd R 3 0) := by
      obtain ⟨len, o, v, d, hc⟩ := hc
      exact ⟨len, o, v, d, CdR_on hc (fun j _ _ => pk_un (by omega))⟩
    have keepB : RCd bsteps bcnt 276 (upd R 3 0) := by
      obtain ⟨len, o, v, d, hb⟩ := hb
      exact ⟨len, o, v, d, CdR_on hb (fun j _ _ => pk_un (by omega))⟩
    rw [hX, p_b1, if_neg (show ¬ (1 : Int32) = 0 by decide), hM, p_b1, if_neg (show ¬ (1 : Int32) = 0 by decide)]
    unfold s_TextReader_read
    rw [ej, show s_TextReader_read_c21 (nI u) rst (nI L) tape 400 (0 : Int32) rby = _ from b2]
    have fail : ∀ (st' : Nat → Int32) (cn' : Int32) (x : Option ((Nat → Int32) × Int32 × Int32 × (Nat → Int32) × Int32 × Int32 × Int32)) (y : Option (Int32 × (Nat → Int32) × (Nat → Int32) × (Nat → Int32) × (Nat → Int32) × Int32 × Int32 × Int32 × Int32 × Int32)) (l' : Int32), x = some (st', cn', nI p1, by', nI L, nI p1, nI u) → y = s_M_text_c66 (nI u) R E2 ac1 wi1 l' (nI p1) (nI 0) (nI u) → ∃ r tl' ps' pn' bs' bn' rst' rcn' rfa' rby' rle' rat' rus' E' R' E2' ac' wi' la' he' op' bd' us', (j_b7 x (fun u2_steps u3_stepCount u4_fault u5_bytes u6_length u7_at u8_use => if u4_fault < 0 then (if nI u = 0 then (j_b2 (s_Law_learn u3_stepCount psteps pcnt u2_steps) (fun u9_steps u10_stepCount => some ((1 : Int32), (0 : Int32), u9_steps, u10_stepCount, bsteps, bcnt, u2_steps, u3_stepCount, u4_fault, u5_bytes, u6_length, u7_at, u8_use, E))) else (j_b2 (s_Law_learn u3_stepCount bsteps bcnt u2_steps) (fun u11_steps u12_stepCount => some ((1 : Int32), (0 : Int32), psteps, pcnt, u11_steps, u12_stepCount, u2_steps, u3_stepCount, u4_fault, u5_bytes, u6_length, u7_at, u8_use, E)))) else (some (((-10 : Int32) - u4_fault), (0 : Int32), psteps, pcnt, bsteps, bcnt, u2_steps, u3_stepCount, u4_fault, u5_bytes, u6_length, u7_at, u8_use, E)))) = some (r, tl', ps', pn', bs', bn', rst', rcn', rfa', rby', rle', rat', rus', E') ∧ y = some (r, R', E2', ac', wi', la', he', op', bd', us') ∧ RTp tape tl' R' ∧ RCd ps' pn' 155 R' ∧ RCd bs' bn' 276 R' ∧ ErR E' E2' ∧ (∀ j, j ≠ 3 → j < 155 → R' j = R j) := by
      intro st' cn' x y l' hx hy
      rw [hx, hy, p_b7, if_neg (p_nlt0 (by omega))]
      unfold s_M_text_c66 s_M_text_c71
      rw [p_bz (Or.inr rfl), if_neg (show ¬ (1 : Int32) = 0 by decide), show (3 : Int32).toNatClampNeg = 3 from rfl]
      exact ⟨_, _, _, _, _, _, _, _, _, _, _, _, _, _, _, _, _, _, _, _, _, _, _, rfl, rfl, empty _ pk_us, keepP, keepB, hE, fun j hj _ => pk_un hj⟩
    rcases q4 with ⟨y1, y2, y3, y4, y5⟩ | ⟨l1, y0, y1, y2⟩
    · rw [show s_TextReader_readRank 80 (0 : Int32) (0 : Int32) rst (0 : Int32) (-1 : Int32) by' (nI L) (0 : Int32) (nI u) = _ from y1, show s_M_any 60 R ac wi (0 : Int32) (0 : Int32) (0 : Int32) (0 : Int32) (nI u) = _ from y2, p_b4, p_b6, if_pos rfl, show (3 : Int32).toNatClampNeg = 3 from rfl, hR3]
      by_cases c : L ≤ p1
      · rw [if_pos (nI_le c (by omega)), if_pos (nI_le c (by omega)), p_b7, if_pos (show (-1 : Int32) < 0 by decide)]
        unfold s_M_text_c71
        have eb : (155 : Int32) + ((121 : Int32) * nI u) = nI (155 + 121 * u) := by rw [p_lit 155, p_lit 121, pk_mul, nI_add]
        rw [p_bz (Or.inl rfl), if_pos rfl, eb, p_chk (by omega) (by omega), nI_clamp (by omega), show (3 : Int32).toNatClampNeg = 3 from rfl]
        obtain ⟨R', w1, w2, -, w3⟩ := p_wr (base := 155 + 121 * u) (E2 := E2) (ac := ac1) (wi := wi1) (he := nI p1) (op := nI 0) (bd := 0) (us := nI u) q3 (by omega) 400 s1 0 (upd (upd R 3 0) (155 + 121 * u) (nI s1)) (by omega) (by omega)
        rw [show s_M_text_c117 (nI (155 + 121 * u)) E2 ac1 wi1 (nI s1) (nI p1) (nI 0) 0 (nI u) 400 (0 : Int32) (upd (upd R 3 0) (155 + 121 * u) (nI s1)) = _ from w1]
        have r3 : R' 3 = 0 := by rw [w2 3 (by omega), pk_un (by omega), pk_us]
        have rb : R' (155 + 121 * u) = nI s1 := by rw [w2 _ (by omega), pk_us]
        have ro : ∀ j, j ≠ 3 → (j < 155 + 121 * u ∨ 155 + 121 * u + 121 ≤ j) → R' j = R j := fun j hj h2 => by rw [w2 j (by omega), pk_un (by omega), pk_un hj]
        rcases (show u = 0 ∨ u = 1 by omega) with e | e <;> subst e
        · obtain ⟨ps', l1, l2⟩ := p_lawLearnT (ws := st1) q3 psteps pcnt
          rw [if_pos (show nI 0 = 0 from rfl), l1, p_b2]
          refine ⟨_, _, _, _, _, _, _, _, _, _, _, _, _, _, _, _, _, _, _, _, _, _, _, rfl, rfl, empty _ r3, CdR_new q3 y5 rb (fun k hk => w3 k (Nat.zero_le _) hk) l2, ?_, hE, fun j hj h2 => ro j hj (by omega)⟩
          obtain ⟨len, o, v, d, hb⟩ := hb
          exact ⟨len, o, v, d, CdR_on hb (fun j h1 _ => ro j (by omega) (by omega))⟩
        · obtain ⟨bs', l1, l2⟩ := p_lawLearnT (ws := st1) q3 bsteps bcnt
          rw [if_neg (show ¬ nI 1 = 0 by decide), l1, p_b2]
          refine ⟨_, _, _, _, _, _, _, _, _, _, _, _, _, _, _, _, _, _, _, _, _, _, _, rfl, rfl, empty _ r3, ?_, CdR_new q3 y5 rb (fun k hk => w3 k (Nat.zero_le _) hk) l2, hE, fun j hj h2 => ro j hj (by omega)⟩
          obtain ⟨len, o, v, d, hc⟩ := hc
          exact ⟨len, o, v, d, CdR_on hc (fun j h1 h2 => ro j (by omega) (by omega))⟩
      · rw [if_neg (nI_ge (by omega) (by omega)), if_neg (nI_ge (by omega) (by omega))]
        unfold s_TextReader_refuse
        rw [if_neg (show ¬ (0 : Int32) ≤ -1 by decide), p_b1]
        exact fail st1 (nI s1) _ _ (nI s1) rfl rfl
    · rw [show s_TextReader_readRank 80 (0 : Int32) (0 : Int32) rst (0 : Int32) (-1 : Int32) by' (nI L) (0 : Int32) (nI u) = _ from y1, show s_M_any 60 R ac wi (0 : Int32) (0 : Int32) (0 : Int32) (0 : Int32) (nI u) = _ from y2, p_b4, p_b6, if_neg (show ¬ (1 : Int32) = 0 by decide)]
      unfold s_TextReader_refuse
      rw [if_pos (show (0 : Int32) ≤ nI p1 from nI_pos' (by omega)), p_b1, ite_self]
      exact fail st1 (nI s1) _ _ (nI l1) rfl rfl
