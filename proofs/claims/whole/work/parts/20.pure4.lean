/-! pure 6: pulls, breaks -/
theorem p_rng (x : Int32) : -2147483648 ≤ x.toInt ∧ x.toInt < 2147483648 := by
  have h1 := Int32.le_toInt x
  have h2 := Int32.toInt_lt x
  omega
theorem p_bmod {z : Int} (h1 : -2147483648 ≤ z) (h2 : z < 2147483648) : z.bmod (2 ^ 32) = z := by
  rw [Int.bmod_eq_of_le (by omega) (by omega)]
theorem p_subI {x y : Int32} (h1 : -2147483648 ≤ x.toInt - y.toInt) (h2 : x.toInt - y.toInt < 2147483648) : (x - y).toInt = x.toInt - y.toInt := by
  rw [Int32.toInt_sub, p_bmod h1 h2]
theorem p_addI {x y : Int32} (h1 : -2147483648 ≤ x.toInt + y.toInt) (h2 : x.toInt + y.toInt < 2147483648) : (x + y).toInt = x.toInt + y.toInt := by
  rw [Int32.toInt_add, p_bmod h1 h2]
theorem p_mulI {x y : Int32} (h1 : -2147483648 ≤ x.toInt * y.toInt) (h2 : x.toInt * y.toInt < 2147483648) : (x * y).toInt = x.toInt * y.toInt := by
  rw [Int32.toInt_mul, p_bmod h1 h2]
def m4 (g : Int32) : Nat := (g.toInt % 4).toNat
theorem m4_lt (g : Int32) : m4 g < 4 := by unfold m4; omega
theorem p_rem4I (g : Int32) : (0 ≤ g.toInt ∧ (g - g / 4 * 4).toInt = g.toInt % 4) ∨ (g.toInt < 0 ∧ (g - g / 4 * 4).toInt = -((-g.toInt) % 4)) := by
  have hr := p_rng g
  have h4 : (4 : Int32).toInt = 4 := by decide
  have hd : (g / 4).toInt = g.toInt.tdiv 4 := by
    rw [Jvm.Kit.i32_div (fun h => absurd h.2 (by decide)), h4]
  by_cases c : 0 ≤ g.toInt
  · left
    refine ⟨c, ?_⟩
    have hq : (g / 4).toInt = g.toInt / 4 := by rw [hd, Int.tdiv_eq_ediv_of_nonneg c]
    have hm : (g / 4 * 4).toInt = g.toInt / 4 * 4 := by rw [p_mulI (by rw [hq, h4]; omega) (by rw [hq, h4]; omega), hq, h4]
    rw [p_subI (by rw [hm]; omega) (by rw [hm]; omega), hm]
    omega
  · right
    refine ⟨by omega, ?_⟩
    have hq : (g / 4).toInt = -((-g.toInt) / 4) := by
      rw [hd]
      have : g.toInt = -(-g.toInt) := by omega
      rw [this, Int.neg_tdiv, Int.tdiv_eq_ediv_of_nonneg (by omega)]
      congr 2
      omega
    have hm : (g / 4 * 4).toInt = -((-g.toInt) / 4) * 4 := by rw [p_mulI (by rw [hq, h4]; omega) (by rw [hq, h4]; omega), hq, h4]
    rw [p_subI (by rw [hm]; omega) (by rw [hm]; omega), hm]
    omega
theorem p_msb (x : Int32) : 0 ≤ x ↔ x.toBitVec.msb = false := by
  rw [Int32.le_iff_toInt_le, show (0 : Int32).toInt = 0 from by decide, BitVec.msb_eq_toInt]
  show 0 ≤ x.toInt ↔ decide (x.toInt < 0) = false
  rw [decide_eq_false_iff_not]
  omega
theorem p_xor4 (g : Int32) : 0 ≤ g ^^^ 4 ↔ 0 ≤ g := by
  rw [p_msb, p_msb, Int32.toBitVec_xor, BitVec.msb_xor, show (4 : Int32).toBitVec.msb = false from by decide, Bool.xor_false]
theorem p_toI {x : Int32} {n : Nat} (hn : n < 2 ^ 31) (h : x.toInt = (n : Int)) : x = nI n := by
  apply Int32.toInt_inj.mp
  rw [h, nI_toInt hn]
theorem p_fmod (g : Int32) : s_Math_floorMod g 4 = some (nI (m4 g)) ∧ (if 0 ≤ g - g / (4 : Int32) * (4 : Int32) then g - g / (4 : Int32) * (4 : Int32) else g - g / (4 : Int32) * (4 : Int32) + (4 : Int32)) = nI (m4 g) := by
  have h4 : (4 : Int32).toInt = 4 := by decide
  have h0 : (0 : Int32).toInt = 0 := by decide
  unfold s_Math_floorMod
  rw [p_dv (by decide)]
  rcases p_rem4I g with ⟨c, hr⟩ | ⟨c, hr⟩
  · have hg : 0 ≤ g := by rw [Int32.le_iff_toInt_le, h0]; exact c
    have hr0 : (0 : Int32) ≤ g - g / 4 * 4 := by rw [Int32.le_iff_toInt_le, h0, hr]; omega
    have e : g - g / 4 * 4 = nI (m4 g) := p_toI (by have := m4_lt g; omega) (by rw [hr]; unfold m4; omega)
    rw [if_pos ((p_xor4 g).mpr hg), if_pos hr0, e]
    exact ⟨rfl, rfl⟩
  · have hg : ¬ 0 ≤ g := by rw [Int32.le_iff_toInt_le, h0]; omega
    rw [if_neg (fun z => hg ((p_xor4 g).mp z))]
    by_cases q : g - g / 4 * 4 = 0
    · have hz : (-g.toInt) % 4 = 0 := by
        have := congrArg Int32.toInt q
        rw [hr, h0] at this
        omega
      rw [if_pos q, q, if_pos (by decide)]
      have e : m4 g = 0 := by unfold m4; omega
      rw [e]
      exact ⟨rfl, rfl⟩
    · have hz : (-g.toInt) % 4 ≠ 0 := by
        intro z
        apply q
        apply Int32.toInt_inj.mp
        rw [hr, h0, z]; rfl
      have hn : ¬ (0 : Int32) ≤ g - g / 4 * 4 := by
        rw [Int32.le_iff_toInt_le, h0, hr]
        have := Int.emod_nonneg (-g.toInt) (by decide : (4 : Int) ≠ 0)
        omega
      have e : g - g / 4 * 4 + 4 = nI (m4 g) := p_toI (by have := m4_lt g; omega) (by
        rw [p_addI (by rw [hr, h4]; omega) (by rw [hr, h4]; omega), hr, h4]
        unfold m4
        omega)
      rw [if_neg q, if_neg hn, e]
      exact ⟨rfl, rfl⟩
/-- a pull; whether it breaks -/
def plv (len : Nat) (o v d : Nat → Nat) (h dd n : Int32) : Nat := m4 (if len = 0 then h / 3 else vl len o v d h dd n)
def brv (len : Nat) (o v d : Nat → Nat) (f m k : Int32) : Bool := if len = 0 then !decide (f ≤ 3) else !decide (vl len o v d f m k = 0)
theorem plv_lt (len : Nat) (o v d : Nat → Nat) (h dd n : Int32) : plv len o v d h dd n < 4 := m4_lt _
theorem p_told {len : Nat} (h : len ≤ 60) : s_Law_isTold (nI len) = some (if len = 0 then 0 else 1) := by
  unfold s_Law_isTold
  by_cases c : len = 0
  · subst c; rfl
  · rw [if_neg (nI_nle (by omega) (by omega)), if_neg c]
theorem r_pullBy {len : Nat} {o v d : Nat → Nat} {steps : Nat → Int32} {cnt : Int32} {base : Nat} {R : Nat → Int32} (h : CdR len o v d steps cnt base R) (a b c : Int32) (f : Nat → Int32) : ∃ f', s_House_pullBy a b c steps f cnt = some (nI (plv len o v d a b c), f') := by
  unfold s_House_pullBy plv
  rw [h.2.1, p_told h.1, p_b1]
  by_cases q : len = 0
  · rw [if_pos q, if_pos q, if_pos rfl]
    unfold s_House_pullBy_c26
    rw [(p_fmod _).1, p_b1]
    exact ⟨f, rfl⟩
  · obtain ⟨f', hf⟩ := r_work h (by omega) a b c f
    rw [h.2.1] at hf
    rw [if_neg q, if_neg q, if_neg (by decide), hf, p_b2]
    unfold s_House_pullBy_c26
    rw [(p_fmod _).1, p_b1]
    exact ⟨f', rfl⟩
theorem r_pullAt {len : Nat} {o v d : Nat → Nat} {steps : Nat → Int32} {cnt : Int32} {base : Nat} {R : Nat → Int32} (h : CdR len o v d steps cnt base R) (a n : Int32) (f : Nat → Int32) : ∃ f', s_House_pullAt a n steps f cnt = some (nI (plv len o v d a (a / 12) n), f') := by
  obtain ⟨f', hf⟩ := r_pullBy h a (a / 12) n f
  unfold s_House_pullAt
  rw [hf, p_b2]
  exact ⟨f', rfl⟩
theorem r_breaksBy {len : Nat} {o v d : Nat → Nat} {steps : Nat → Int32} {cnt : Int32} {base : Nat} {R : Nat → Int32} (h : CdR len o v d steps cnt base R) (a b c : Int32) (f : Nat → Int32) : ∃ f', s_House_breaksBy a b c steps f cnt = some (if brv len o v d a b c = true then 1 else 0, f') := by
  unfold s_House_breaksBy brv
  rw [h.2.1, p_told h.1, p_b1]
  by_cases q : len = 0
  · rw [if_pos q, if_pos q, if_pos rfl]
    by_cases z : a ≤ (3 : Int32)
    · rw [if_pos z, decide_eq_true z]; exact ⟨f, rfl⟩
    · rw [if_neg z, decide_eq_false z]; exact ⟨f, rfl⟩
  · obtain ⟨f', hf⟩ := r_work h (by omega) a b c f
    rw [h.2.1] at hf
    rw [if_neg q, if_neg q, if_neg (by decide), hf, p_b2]
    by_cases z : vl len o v d a b c = 0
    · rw [if_pos z, decide_eq_true z]; exact ⟨f', rfl⟩
    · rw [if_neg z, decide_eq_false z]; exact ⟨f', rfl⟩
theorem p_facts (F : Nat → Int32) (a b c : Int32) : (upd (upd (upd F (0 : Int32).toNatClampNeg a) (1 : Int32).toNatClampNeg b) (2 : Int32).toNatClampNeg c) 0 = a ∧ (upd (upd (upd F (0 : Int32).toNatClampNeg a) (1 : Int32).toNatClampNeg b) (2 : Int32).toNatClampNeg c) 1 = b ∧ (upd (upd (upd F (0 : Int32).toNatClampNeg a) (1 : Int32).toNatClampNeg b) (2 : Int32).toNatClampNeg c) 2 = c := by
  rw [show (0 : Int32).toNatClampNeg = 0 from rfl, show (1 : Int32).toNatClampNeg = 1 from rfl, show (2 : Int32).toNatClampNeg = 2 from rfl]
  refine ⟨?_, ?_, ?_⟩
  · rw [pk_un (by decide), pk_un (by decide), pk_us]
  · rw [pk_un (by decide), pk_us]
  · rw [pk_us]
theorem r_gives0 {len : Nat} {o v d : Nat → Nat} {steps : Nat → Int32} {cnt : Int32} {R : Nat → Int32} (h : CdR len o v d steps cnt 155 R) (a b c : Int32) (F f : Nat → Int32) : ∃ F' f', s_M_gives (nI 0) a b c R F f = some (nI (plv len o v d a b c), F', f') := by
  unfold s_M_gives plv
  rw [show (155 : Int32) + (121 : Int32) * nI 0 = nI 155 from rfl, p_chk (by omega) (by omega), nI_clamp (by omega), h.2.2.1]
  by_cases q : len = 0
  · rw [if_pos (by rw [q]; decide), if_pos (show nI 0 = (0 : Int32) from rfl), if_pos q]
    unfold s_M_gives_c71
    rw [if_neg (show ¬ nI 0 = (1 : Int32) by decide)]
    have e := (p_fmod (a / 3)).2
    by_cases z : 0 ≤ a / (3 : Int32) - a / (3 : Int32) / (4 : Int32) * (4 : Int32)
    · rw [if_pos z] at e ⊢
      rw [e]; exact ⟨_, _, rfl⟩
    · rw [if_neg z] at e ⊢
      rw [e]; exact ⟨_, _, rfl⟩
  · obtain ⟨f', hf⟩ := r_works h (by omega) (by omega) a b c _ f (p_facts F a b c)
    rw [if_neg (nI_nle (by omega) (by have := h.1; omega)), if_neg q, hf, p_b2]
    unfold s_M_gives_c71
    rw [if_neg (show ¬ nI 0 = (1 : Int32) by decide)]
    have e := (p_fmod (vl len o v d a b c)).2
    by_cases z : 0 ≤ vl len o v d a b c - vl len o v d a b c / (4 : Int32) * (4 : Int32)
    · rw [if_pos z] at e ⊢
      rw [e]; exact ⟨_, _, rfl⟩
    · rw [if_neg z] at e ⊢
      rw [e]; exact ⟨_, _, rfl⟩
theorem r_gives1 {len : Nat} {o v d : Nat → Nat} {steps : Nat → Int32} {cnt : Int32} {R : Nat → Int32} (h : CdR len o v d steps cnt 276 R) (a b c : Int32) (F f : Nat → Int32) : ∃ F' f', s_M_gives (nI 1) a b c R F f = some (if brv len o v d a b c = true then 1 else 0, F', f') := by
  unfold s_M_gives brv
  rw [show (155 : Int32) + (121 : Int32) * nI 1 = nI 276 from rfl, p_chk (by omega) (by omega), nI_clamp (by omega), h.2.2.1]
  by_cases q : len = 0
  · rw [if_pos (by rw [q]; decide), if_neg (by decide), if_pos q]
    unfold s_M_gives_c71
    by_cases z : a ≤ (3 : Int32)
    · rw [if_pos z, if_pos (show nI 1 = (1 : Int32) from rfl), if_pos (show (0 : Int32) = 0 from rfl), decide_eq_true z]; exact ⟨_, _, rfl⟩
    · rw [if_neg z, if_pos (show nI 1 = (1 : Int32) from rfl), if_neg (show ¬ (1 : Int32) = 0 by decide), decide_eq_false z]; exact ⟨_, _, rfl⟩
  · obtain ⟨f', hf⟩ := r_works h (by omega) (by omega) a b c _ f (p_facts F a b c)
    rw [if_neg (nI_nle (by omega) (by have := h.1; omega)), if_neg q, hf, p_b2]
    unfold s_M_gives_c71
    rw [if_pos (show nI 1 = (1 : Int32) from rfl)]
    by_cases z : vl len o v d a b c = 0
    · rw [if_pos z, decide_eq_true z]; exact ⟨_, _, rfl⟩
    · rw [if_neg z, decide_eq_false z]; exact ⟨_, _, rfl⟩
theorem r_pullOf {len : Nat} {o v d : Nat → Nat} {steps : Nat → Int32} {cnt : Int32} {R : Nat → Int32} (h : CdR len o v d steps cnt 155 R) (a : Int32) (F f : Nat → Int32) : ∃ F' f', s_M_pullOf a R F f = some (nI (plv len o v d a (a / 12) (R 2)), F', f') := by
  obtain ⟨F', f', hf⟩ := r_gives0 h a (a / 12) (R 2) F f
  unfold s_M_pullOf
  rw [show (2 : Int32).toNatClampNeg = 2 from rfl, show (0 : Int32) = nI 0 from rfl, hf, p_b3]
  exact ⟨F', f', rfl⟩
