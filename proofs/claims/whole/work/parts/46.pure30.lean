/-! pure 32: count; image, restore -/
theorem p_cntM {walls : Int64} {R E2 F f : Nat → Int32} (hW : hWl walls R) : ∀ (fuel q i s : Nat), i + q = 36 → q < fuel → s_M_count_c73 R E2 F f fuel (nI s) (nI i) = some (nI (s + bcn q (tn walls / 2 ^ i)), E2, F, f) := by
  intro fuel
  induction fuel with
  | zero => intro q i s _ h; exact absurd h (Nat.not_lt_zero _)
  | succ fuel ih =>
    intro q i s hq hf
    rw [s_M_count_c73]
    cases q with
    | zero =>
      rw [if_pos (show (36 : Int32) ≤ nI i from nI_le (a := 36) (by omega) (by omega))]
      rfl
    | succ q =>
      have e : (tn walls / 2 ^ i) % 2 = if bL walls i = true then 1 else 0 := by
        have h1 : bL walls i = decide (tn walls / 2 ^ i % 2 = 1) := by
          show (tn walls).testBit i = _
          rw [Nat.testBit_eq_decide_div_mod_eq]
        have h2 := Nat.mod_two_eq_zero_or_one (tn walls / 2 ^ i)
        rw [h1]
        rcases h2 with z | z
        · rw [z]; rfl
        · rw [z]; rfl
      have e2 : nI s + (if bL walls i = true then (1 : Int32) else 0) = nI (s + (tn walls / 2 ^ i) % 2) := by
        rw [e]
        cases bL walls i with
        | true => rw [if_pos rfl, if_pos rfl, nI_1]
        | false => rw [if_neg (by decide), if_neg (by decide), show (0 : Int32) = nI 0 from rfl, nI_add]
      rw [if_neg (show ¬ (36 : Int32) ≤ nI i from nI_ge (b := 36) (by omega) (by omega)), show (5 : Int32) + nI i = nI (5 + i) from nI_add 5 i, p_chk (by omega) (by omega), nI_clamp (by omega), hW i (by omega), e2, nI_1, ih q (i + 1) _ (by omega) (by omega)]
      have e3 : bcn (q + 1) (tn walls / 2 ^ i) = (tn walls / 2 ^ i) % 2 + bcn q (tn walls / 2 ^ (i + 1)) := by
        show (tn walls / 2 ^ i) % 2 + bcn q (tn walls / 2 ^ i / 2) = _
        rw [Nat.div_div_eq_div_mul, Nat.pow_succ]
      rw [e3, Nat.add_assoc]
theorem p_bits36 {walls : Int64} (h : ∀ c, 36 ≤ c → c < 64 → bL walls c = false) : bcn 64 (tn walls) = bcn 36 (tn walls) := by
  have hx : tn walls < 2 ^ 36 := by
    apply Nat.lt_pow_two_of_testBit
    intro i hi
    by_cases c : i < 64
    · exact h i hi c
    · exact Nat.testBit_lt_two_pow (Nat.lt_of_lt_of_le (tn_lt walls) (Nat.pow_le_pow_right (by decide) (by omega)))
  have h0 : bcn 28 0 = 0 := by decide +kernel
  rw [show bcn 64 (tn walls) = bcn (36 + 28) (tn walls) from rfl, bcn_add, Nat.div_eq_of_lt hx, h0, Nat.add_zero]
theorem q_count {kind m cell broken fell : Nat → Int32} {count hour z tl ws trX trM : Int32} {taken walls : Int64} {psteps pstack tape wt voX voM : Nat → Int32} {pcnt : Int32} {R E E2 : Nat → Int32} (hT : RTh kind m cell broken fell count taken walls R) (hh : RHr hour R) (hz : z = R 1) (hp : RTp tape tl R) (hw : RWt wt ws R) (hc : RCd psteps pcnt 155 R) (hV : RVo trX voX trM voM) (hE : ErR E E2) (a : Int32) (F f : Nat → Int32) :
    ∃ r st' E' E2' F' f', s_X_count a broken count walls hour z tl ws psteps pstack pcnt trX E = some (r, st', E') ∧ s_M_count a R E2 F f trM = some (r, E2', F', f') ∧ ErR E' E2' := by
  obtain ⟨E1, F1, x1, x2, x3⟩ := p_err hE (k := 1) (by omega)
  have hW := RTh_wl hT
  obtain ⟨n, K, M, C, h, hb, -, hu⟩ := hT
  obtain ⟨hn, h1, h2, -⟩ := h
  obtain ⟨hr, hr1, rfl, hr2⟩ := hh
  obtain ⟨len, o, v, d, hc⟩ := hc
  obtain ⟨l, -, p1, p2, -⟩ := hp
  obtain ⟨w, -, w1, w2, -⟩ := hw
  obtain ⟨j, j1, j2, -⟩ := hV
  unfold s_X_count s_M_count
  rw [show (2 : Int32).toNatClampNeg = 2 from rfl, show (0 : Int32).toNatClampNeg = 0 from rfl, show (3 : Int32).toNatClampNeg = 3 from rfl, show (4 : Int32).toNatClampNeg = 4 from rfl, show (1 : Int32).toNatClampNeg = 1 from rfl]
  by_cases c0 : a = 0
  · rw [if_pos c0, if_pos c0, h1, h2]
    exact ⟨_, _, _, _, _, _, rfl, rfl, hE⟩
  rw [if_neg c0, if_neg c0]
  by_cases c1 : a = 1
  · rw [if_pos c1, if_pos c1, hr2]
    exact ⟨_, _, _, _, _, _, rfl, rfl, hE⟩
  rw [if_neg c1, if_neg c1]
  by_cases c2 : a = 2
  · obtain ⟨s, s1, s2⟩ := p_brk hn h2 hb 400 400 n 0 0 (by omega) (by omega) (by omega)
    rw [if_pos c2, if_pos c2]
    unfold s_Things_brokenCount s_M_broken
    rw [h1, show s_Things_brokenCount_c4 broken (nI n) 400 (0 : Int32) (0 : Int32) = some s from s1, show s_M_broken_c4 R 400 (0 : Int32) (0 : Int32) = some s from s2, p_b1, p_b1]
    exact ⟨_, _, _, _, _, _, rfl, rfl, hE⟩
  rw [if_neg c2, if_neg c2]
  by_cases c3 : a = 3
  · rw [if_pos c3, if_pos c3, p_bitCount, p_b1, p_bits36 hu]
    have := p_cntM (E2 := E2) (F := F) (f := f) hW 400 36 0 0 (by omega) (by omega)
    rw [Nat.zero_add, Nat.pow_zero, Nat.div_one] at this
    exact ⟨_, _, _, _, _, _, rfl, this, hE⟩
  rw [if_neg c3, if_neg c3]
  by_cases c4 : a = 4
  · obtain ⟨st', y1⟩ := r_pullAt hc (nI hr) (nI n) pstack
    obtain ⟨F', f', y2⟩ := r_pullOf hc (nI hr) F f
    rw [h2] at y2
    rw [if_pos c4, if_pos c4, h1, y1, p_b2, hr2, y2, p_b3]
    exact ⟨_, _, _, _, _, _, rfl, rfl, hE⟩
  rw [if_neg c4, if_neg c4]
  by_cases c5 : a = 5
  · rw [if_pos c5, if_pos c5, p1, p2]
    exact ⟨_, _, _, _, _, _, rfl, rfl, hE⟩
  rw [if_neg c5, if_neg c5]
  by_cases c6 : a = 6
  · rw [if_pos c6, if_pos c6, w1, w2]
    exact ⟨_, _, _, _, _, _, rfl, rfl, hE⟩
  rw [if_neg c6, if_neg c6]
  by_cases c7 : a = 7
  · rw [if_pos c7, if_pos c7, j1, j2]
    exact ⟨_, _, _, _, _, _, rfl, rfl, hE⟩
  rw [if_neg c7, if_neg c7]
  by_cases c8 : a = 8
  · rw [if_pos c8, if_pos c8, hz]
    exact ⟨_, _, _, _, _, _, rfl, rfl, hE⟩
  rw [if_neg c8, if_neg c8, show (1 : Int32) = nI 1 from rfl, x1, p_b2, show (-1000000001 : Int32) = eL 1 from by decide, x2, p_b2]
  exact ⟨_, _, _, _, _, _, rfl, rfl, x3⟩
/-- all that an image keeps -/
def RHs (k m c b fl : Nat → Int32) (cn : Int32) (tk : Int64) (tp : Nat → Int32) (wl : Int64) (hr z tl ws : Int32) (ps : Nat → Int32) (pn : Int32) (bs : Nat → Int32) (bn : Int32) (wt R : Nat → Int32) : Prop := RTh k m c b fl cn tk wl R ∧ RHr hr R ∧ z = R 1 ∧ RTp tp tl R ∧ RWt wt ws R ∧ RCd ps pn 155 R ∧ RCd bs bn 276 R
theorem CdR_ag {len : Nat} {o v d : Nat → Nat} {steps steps' : Nat → Int32} {cnt : Int32} {base : Nat} {R : Nat → Int32} (h : CdR len o v d steps cnt base R) (hs : ∀ k, k < len → steps' k = steps k) : CdR len o v d steps' cnt base R := by
  obtain ⟨h1, h2, h3, h4, h5⟩ := h
  refine ⟨h1, h2, h3, h4, fun k hk => ?_⟩
  rw [hs k hk]
  exact h5 k hk
theorem p_lawLearn {len : Nat} {ws : Nat → Int32} (hl : len ≤ 60) : ∀ (fuel q i : Nat) (st : Nat → Int32), i + q = len → q < fuel → (∀ j, j < i → st j = ws j) → ∃ st', s_Law_learn_c17 (nI len) ws fuel (nI i) st = some (st', nI len) ∧ ∀ j, j < len → st' j = ws j := by
  intro fuel
  induction fuel with
  | zero => intro q i st _ h; exact absurd h (Nat.not_lt_zero _)
  | succ fuel ih =>
    intro q i st hq hf hs
    rw [s_Law_learn_c17]
    cases q with
    | zero =>
      rw [if_pos (nI_le (by omega) (by omega))]
      exact ⟨st, rfl, fun j hj => hs j (by omega)⟩
    | succ q =>
      rw [if_neg (nI_ge (by omega) (by omega)), p_chk (by omega) (by omega), p_chk (by omega) (by omega), nI_clamp (by omega), nI_1]
      refine ih q (i + 1) _ (by omega) (by omega) (fun j hj => ?_)
      by_cases z : j = i
      · rw [z, pk_us]
      · rw [pk_un z]; exact hs j (by omega)
theorem p_lawLearnT {len : Nat} {ws : Nat → Int32} (hl : len ≤ 60) (st : Nat → Int32) (cn : Int32) : ∃ st', s_Law_learn (nI len) st cn ws = some (st', nI len) ∧ ∀ j, j < len → st' j = ws j := by
  unfold s_Law_learn
  have e : j_min (nI len) (j_min (60 : Int32) (60 : Int32)) = nI len := by
    unfold j_min
    rw [if_neg (show ¬ (60 : Int32) < 60 by decide), if_neg (show ¬ (60 : Int32) < nI len from nI_nlt (a := 60) hl (by omega))]
  rw [e]
  exact p_lawLearn hl 400 len 0 st (by omega) (by omega) (fun j hj => absurd hj (Nat.not_lt_zero _))
theorem p_lawTake {ws : Nat → Int32} {wn : Int32} {base : Nat} {R : Nat → Int32} (h : RCd ws wn base R) (st : Nat → Int32) (cn : Int32) : ∃ st', s_Law_takeOver st cn ws wn = some (st', wn) ∧ RCd st' wn base R := by
  obtain ⟨len, o, v, d, h⟩ := h
  have h1 := h.1
  have h2 := h.2.1
  obtain ⟨st', e1, e2⟩ := p_lawLearnT (ws := ws) h1 st cn
  unfold s_Law_takeOver
  rw [h2, e1, p_b2]
  exact ⟨st', rfl, len, o, v, d, h2 ▸ CdR_ag h e2⟩
theorem p_byte (x : Int32) : vp_nar .byte x &&& 255 = x &&& 255 := by
  rw [vp_nar_byte, ← Int32.toBitVec_inj]
  apply BitVec.eq_of_getLsbD_eq
  intro i hi
  rw [Int32.toBitVec_and, BitVec.getLsbD_and, Int32.toBitVec_and, BitVec.getLsbD_and, p_255 i hi]
  by_cases c : i < 8
  · rw [Int8.toBitVec_toInt32, Int32.toBitVec_toInt8, BitVec.getLsbD_signExtend, if_pos c, BitVec.getLsbD_signExtend, if_pos (by omega)]
    simp [c, hi]
  · simp [c]
theorem p_tape60 {k m c b fl : Nat → Int32} {cn : Int32} {tk wl : Int64} {hr z tl pn bn ws : Int32} {ps bs wt wtp wwt : Nat → Int32} : ∀ (fuel q i : Nat) (tp : Nat → Int32), i + q = 60 → q < fuel → (∀ j, j < i → tp j &&& 255 = wtp j &&& 255) → ∃ tp', s_House_takeOver_c67 k m c b fl cn tk wl hr z tl ps pn bs bn wt wtp ws wwt fuel (nI i) tp = s_House_takeOver_c101 k m c b fl cn tk tp' wl hr z tl ws ps pn bs bn wwt 400 (0 : Int32) wt ∧ ∀ j, j < 60 → tp' j &&& 255 = wtp j &&& 255 := by
  intro fuel
  induction fuel with
  | zero => intro q i tp _ h; exact absurd h (Nat.not_lt_zero _)
  | succ fuel ih =>
    intro q i tp hq hf hs
    rw [s_House_takeOver_c67]
    cases q with
    | zero =>
      rw [if_pos (show (60 : Int32) ≤ nI i from nI_le (a := 60) (by omega) (by omega))]
      exact ⟨tp, rfl, fun j hj => hs j (by omega)⟩
    | succ q =>
      rw [if_neg (show ¬ (60 : Int32) ≤ nI i from nI_ge (b := 60) (by omega) (by omega)), p_chk (by omega) (by omega), p_chk (by omega) (by omega), nI_clamp (by omega), nI_1]
      refine ih q (i + 1) _ (by omega) (by omega) (fun j hj => ?_)
      by_cases y : j = i
      · rw [y, pk_us, p_byte]
      · rw [pk_un y]; exact hs j (by omega)
theorem p_wait24 {k m c b fl tp : Nat → Int32} {cn : Int32} {tk wl : Int64} {hr z tl pn bn ws : Int32} {ps bs wwt : Nat → Int32} : ∀ (fuel q i : Nat) (wt : Nat → Int32), i + q = 24 → q < fuel → (∀ j, j < i → wt j = wwt j) → ∃ wt', s_House_takeOver_c101 k m c b fl cn tk tp wl hr z tl ws ps pn bs bn wwt fuel (nI i) wt = some (k, m, c, b, fl, cn, tk, tp, wl, hr, z, tl, ws, ps, pn, bs, bn, wt') ∧ ∀ j, j < 24 → wt' j = wwt j := by
  intro fuel
  induction fuel with
  | zero => intro q i wt _ h; exact absurd h (Nat.not_lt_zero _)
  | succ fuel ih =>
    intro q i wt hq hf hs
    rw [s_House_takeOver_c101]
    cases q with
    | zero =>
      rw [if_pos (show (24 : Int32) ≤ nI i from nI_le (a := 24) (by omega) (by omega))]
      exact ⟨wt, rfl, fun j hj => hs j (by omega)⟩
    | succ q =>
      rw [if_neg (show ¬ (24 : Int32) ≤ nI i from nI_ge (b := 24) (by omega) (by omega)), p_chk (by omega) (by omega), p_chk (by omega) (by omega), nI_clamp (by omega), nI_1]
      refine ih q (i + 1) _ (by omega) (by omega) (fun j hj => ?_)
      by_cases y : j = i
      · rw [y, pk_us]
      · rw [pk_un y]; exact hs j (by omega)
theorem q_take {k m c b fl tp ps bs wt R Z : Nat → Int32} {cn hr z tl ws pn bn : Int32} {tk wl : Int64} (h : RHs k m c b fl cn tk tp wl hr z tl ws ps pn bs bn wt R) (hZ : ∀ j, j < 397 → Z j = R j) (k0 m0 c0 b0 f0 : Nat → Int32) (n0 : Int32) (t0 : Int64) (tp0 : Nat → Int32) (wl0 : Int64) (hr0 z0 tl0 ws0 : Int32) (ps0 : Nat → Int32) (pn0 : Int32) (bs0 : Nat → Int32) (bn0 : Int32) (wt0 : Nat → Int32) :
    ∃ k' m' c' b' f' tp' ps' bs' wt', s_House_takeOver k0 m0 c0 b0 f0 n0 t0 tp0 wl0 hr0 z0 tl0 ws0 ps0 pn0 bs0 bn0 wt0 k m c b fl cn tk tp wl hr z tl ws ps pn bs bn wt = some (k', m', c', b', f', cn, tk, tp', wl, hr, z, tl, ws, ps', pn, bs', bn, wt') ∧ RHs k' m' c' b' f' cn tk tp' wl hr z tl ws ps' pn bs' bn wt' Z := by
  obtain ⟨hT, hh, hz, hp, hw, hc, hb⟩ := h
  obtain ⟨k', m', c', b', f', e1, e2⟩ := p_takeOver k0 m0 c0 b0 f0 k m c b fl n0 cn t0 tk
  obtain ⟨ps', e3, e4⟩ := p_lawTake hc ps0 pn0
  obtain ⟨bs', e5, e6⟩ := p_lawTake hb bs0 bn0
  obtain ⟨tp', e7, e8⟩ := p_tape60 (k := k') (m := m') (c := c') (b := b') (fl := f') (cn := cn) (tk := tk) (wl := wl) (hr := hr) (z := z) (tl := tl) (pn := pn) (bn := bn) (ws := ws) (ps := ps') (bs := bs') (wt := wt0) (wtp := tp) (wwt := wt) 400 60 0 tp0 (by omega) (by omega) (fun j hj => absurd hj (Nat.not_lt_zero _))
  obtain ⟨wt', e9, e10⟩ := p_wait24 (k := k') (m := m') (c := c') (b := b') (fl := f') (tp := tp') (cn := cn) (tk := tk) (wl := wl) (hr := hr) (z := z) (tl := tl) (pn := pn) (bn := bn) (ws := ws) (ps := ps') (bs := bs') (wwt := wt) 400 24 0 wt0 (by omega) (by omega) (fun j hj => absurd hj (Nat.not_lt_zero _))
  refine ⟨k', m', c', b', f', tp', ps', bs', wt', ?_, ?_, ?_, ?_, ?_, ?_, ?_, ?_⟩
  · unfold s_House_takeOver
    rw [e1, p_b7, e3, p_b2, e5, p_b2]
    exact e7.trans e9
  · obtain ⟨n, K, M, C, h, hb1, hf1, hu⟩ := hT
    have hn := h.1
    refine ⟨n, K, M, C, ThR_on (ThR_ag h (fun u hu => ⟨(e2 u hu).1, (e2 u hu).2.1, (e2 u hu).2.2.1⟩)) (fun j hj _ _ => hZ j (by omega)), fun u hu1 => ?_, fun u hu1 => ?_, hu⟩
    · rw [(e2 u (by omega)).2.2.2.1, hZ _ (by omega)]; exact hb1 u hu1
    · rw [(e2 u (by omega)).2.2.2.2, hZ _ (by omega)]; exact hf1 u hu1
  · obtain ⟨x, x1, x2, x3⟩ := hh
    exact ⟨x, x1, x2, by rw [hZ 0 (by omega)]; exact x3⟩
  · rw [hZ 1 (by omega)]; exact hz
  · obtain ⟨l, l1, l2, l3, l4⟩ := hp
    refine ⟨l, l1, l2, by rw [hZ 3 (by omega)]; exact l3, fun i hi => ?_⟩
    obtain ⟨y, y1, y2, y3⟩ := l4 i hi
    exact ⟨y, y1, by rw [e8 i (by omega)]; exact y2, by rw [hZ _ (by omega)]; exact y3⟩
  · obtain ⟨w, w1, w2, w3, w4⟩ := hw
    refine ⟨w, w1, w2, by rw [hZ 4 (by omega)]; exact w3, fun i hi => ?_⟩
    rw [e10 i (by omega), hZ _ (by omega)]
    exact w4 i hi
  · obtain ⟨len, o, v, d, h⟩ := e4
    exact ⟨len, o, v, d, CdR_on h (fun j _ _ => hZ j (by omega))⟩
  · obtain ⟨len, o, v, d, h⟩ := e6
    exact ⟨len, o, v, d, CdR_on h (fun j _ _ => hZ j (by omega))⟩
theorem q_image {k m c b fl tp ps bs wt R Kp : Nat → Int32} {cn hr z tl ws pn bn im : Int32} {tk wl : Int64} (h : RHs k m c b fl cn tk tp wl hr z tl ws ps pn bs bn wt R) (k0 m0 c0 b0 f0 : Nat → Int32) (n0 : Int32) (t0 : Int64) (tp0 : Nat → Int32) (wl0 : Int64) (hr0 z0 tl0 ws0 : Int32) (ps0 : Nat → Int32) (pn0 : Int32) (bs0 : Nat → Int32) (bn0 : Int32) (wt0 : Nat → Int32) :
    ∃ k' m' c' b' f' tp' ps' bs' wt' Kp', s_X_image k m c b fl cn tk tp wl hr z tl ws ps pn bs bn wt k0 m0 c0 b0 f0 n0 t0 tp0 wl0 hr0 z0 tl0 ws0 ps0 pn0 bs0 bn0 wt0 im = some (im + 1, k', m', c', b', f', cn, tk, tp', wl, hr, z, tl, ws, ps', pn, bs', bn, wt', im + 1) ∧ s_M_image R Kp im = some (im + 1, Kp', im + 1) ∧ RHs k' m' c' b' f' cn tk tp' wl hr z tl ws ps' pn bs' bn wt' Kp' := by
  obtain ⟨Z, z1, z2⟩ := p_copyAll R Kp
  obtain ⟨k', m', c', b', f', tp', ps', bs', wt', e1, e2⟩ := q_take h z2 k0 m0 c0 b0 f0 n0 t0 tp0 wl0 hr0 z0 tl0 ws0 ps0 pn0 bs0 bn0 wt0
  refine ⟨k', m', c', b', f', tp', ps', bs', wt', Z, ?_, ?_, e2⟩
  · unfold s_X_image
    rw [e1, p_b18]
  · unfold s_M_image
    rw [z1, p_b1]
theorem q_restore {k m c b fl tp ps bs wt R Kp : Nat → Int32} {cn hr z tl ws pn bn im : Int32} {tk wl : Int64} {k0 m0 c0 b0 f0 : Nat → Int32} {n0 : Int32} {t0 : Int64} {tp0 : Nat → Int32} {wl0 : Int64} {hr0 z0 tl0 ws0 : Int32} {ps0 : Nat → Int32} {pn0 : Int32} {bs0 : Nat → Int32} {bn0 : Int32} {wt0 E E2 : Nat → Int32} (h0 : RHs k0 m0 c0 b0 f0 n0 t0 tp0 wl0 hr0 z0 tl0 ws0 ps0 pn0 bs0 bn0 wt0 R) (h : im ≠ 0 → RHs k m c b fl cn tk tp wl hr z tl ws ps pn bs bn wt Kp) (hE : ErR E E2) :
    ∃ r k' m' c' b' f' cn' tk' tp' wl' hr' z' tl' ws' ps' pn' bs' bn' wt' E' R' E2', s_X_restore k0 m0 c0 b0 f0 n0 t0 tp0 wl0 hr0 z0 tl0 ws0 ps0 pn0 bs0 bn0 wt0 k m c b fl cn tk tp wl hr z tl ws ps pn bs bn wt E im = some (r, k', m', c', b', f', cn', tk', tp', wl', hr', z', tl', ws', ps', pn', bs', bn', wt', E') ∧ s_M_restore R Kp im E2 = some (r, R', E2') ∧ RHs k' m' c' b' f' cn' tk' tp' wl' hr' z' tl' ws' ps' pn' bs' bn' wt' R' ∧ ErR E' E2' := by
  obtain ⟨E1, F1, x1, x2, x3⟩ := p_err hE (k := 2) (by omega)
  unfold s_X_restore s_M_restore
  by_cases c1 : im = 0
  · rw [if_pos c1, if_pos c1, show (2 : Int32) = nI 2 from rfl, x1, p_b2, show (-1000000002 : Int32) = eL 2 from by decide, x2, p_b2]
    exact ⟨_, _, _, _, _, _, _, _, _, _, _, _, _, _, _, _, _, _, _, _, _, _, rfl, rfl, h0, x3⟩
  · have hI := h c1
    obtain ⟨Z, z1, z2⟩ := p_copyAll Kp R
    obtain ⟨k', m', c', b', f', tp', ps', bs', wt', e1, e2⟩ := q_take hI z2 k0 m0 c0 b0 f0 n0 t0 tp0 wl0 hr0 z0 tl0 ws0 ps0 pn0 bs0 bn0 wt0
    obtain ⟨x, y1, y2, y3⟩ := hI.2.1
    rw [if_neg c1, if_neg c1, e1, p_b18, z1, p_b1, show (0 : Int32).toNatClampNeg = 0 from rfl, z2 0 (by omega), y3, ← y2]
    exact ⟨_, _, _, _, _, _, _, _, _, _, _, _, _, _, _, _, _, _, _, _, _, _, rfl, rfl, e2, hE⟩
