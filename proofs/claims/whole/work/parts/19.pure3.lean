/-! pure 5: what a text gives -/
def bop (x : Nat) : Prop := x = 37 ∨ x = 38 ∨ x = 42 ∨ x = 43 ∨ x = 45 ∨ x = 47 ∨ x = 60 ∨ x = 61 ∨ x = 62 ∨ x = 124
def tw (op : Nat) (x y : Int32) : Int32 := (s_M_twoOf (nI op) x y).getD 0
theorem p_two {op : Nat} (h : bop op) (x y : Int32) : s_M_twoOf (nI op) x y = some (tw op x y) ∧ s_Law_joined (nI op) x y = some (tw op x y) := by
  have key : ∃ z, s_M_twoOf (nI op) x y = some z ∧ s_Law_joined (nI op) x y = some z := by
    unfold s_M_twoOf s_Law_joined
    rcases h with e | e | e | e | e | e | e | e | e | e <;> subst e
    · rw [if_pos (show nI 37 = (37 : Int32) from rfl), if_pos (show nI 37 = (37 : Int32) from rfl)]
      by_cases c : y = 0
      · refine ⟨0, ?_, ?_⟩ <;> rw [if_pos c]
      · refine ⟨x - x / y * y, ?_, ?_⟩ <;> rw [if_neg c, p_dv c]
    · rw [if_neg (show ¬ nI 38 = (37 : Int32) by decide), if_neg (show ¬ nI 38 = (37 : Int32) by decide), if_pos (show nI 38 = (38 : Int32) from rfl), if_pos (show nI 38 = (38 : Int32) from rfl)]
      by_cases c : x = 0
      · refine ⟨0, ?_, ?_⟩ <;> rw [if_pos c]
      · by_cases c2 : y = 0
        · refine ⟨0, ?_, ?_⟩ <;> rw [if_neg c, if_pos c2]
        · refine ⟨1, ?_, ?_⟩ <;> rw [if_neg c, if_neg c2]
    · rw [if_neg (show ¬ nI 42 = (37 : Int32) by decide), if_neg (show ¬ nI 42 = (37 : Int32) by decide), if_neg (show ¬ nI 42 = (38 : Int32) by decide), if_neg (show ¬ nI 42 = (38 : Int32) by decide), if_pos (show nI 42 = (42 : Int32) from rfl), if_pos (show nI 42 = (42 : Int32) from rfl)]
      exact ⟨_, rfl, rfl⟩
    · rw [if_neg (show ¬ nI 43 = (37 : Int32) by decide), if_neg (show ¬ nI 43 = (37 : Int32) by decide), if_neg (show ¬ nI 43 = (38 : Int32) by decide), if_neg (show ¬ nI 43 = (38 : Int32) by decide), if_neg (show ¬ nI 43 = (42 : Int32) by decide), if_neg (show ¬ nI 43 = (42 : Int32) by decide), if_pos (show nI 43 = (43 : Int32) from rfl), if_pos (show nI 43 = (43 : Int32) from rfl)]
      exact ⟨_, rfl, rfl⟩
    · rw [if_neg (show ¬ nI 45 = (37 : Int32) by decide), if_neg (show ¬ nI 45 = (37 : Int32) by decide), if_neg (show ¬ nI 45 = (38 : Int32) by decide), if_neg (show ¬ nI 45 = (38 : Int32) by decide), if_neg (show ¬ nI 45 = (42 : Int32) by decide), if_neg (show ¬ nI 45 = (42 : Int32) by decide), if_neg (show ¬ nI 45 = (43 : Int32) by decide), if_neg (show ¬ nI 45 = (43 : Int32) by decide), if_pos (show nI 45 = (45 : Int32) from rfl), if_pos (show nI 45 = (45 : Int32) from rfl)]
      exact ⟨_, rfl, rfl⟩
    · rw [if_neg (show ¬ nI 47 = (37 : Int32) by decide), if_neg (show ¬ nI 47 = (37 : Int32) by decide), if_neg (show ¬ nI 47 = (38 : Int32) by decide), if_neg (show ¬ nI 47 = (38 : Int32) by decide), if_neg (show ¬ nI 47 = (42 : Int32) by decide), if_neg (show ¬ nI 47 = (42 : Int32) by decide), if_neg (show ¬ nI 47 = (43 : Int32) by decide), if_neg (show ¬ nI 47 = (43 : Int32) by decide), if_neg (show ¬ nI 47 = (45 : Int32) by decide), if_neg (show ¬ nI 47 = (45 : Int32) by decide), if_pos (show nI 47 = (47 : Int32) from rfl), if_pos (show nI 47 = (47 : Int32) from rfl)]
      by_cases c : y = 0
      · refine ⟨0, ?_, ?_⟩ <;> rw [if_pos c]
      · refine ⟨x / y, ?_, ?_⟩ <;> rw [if_neg c, p_dv c]
    · rw [if_neg (show ¬ nI 60 = (37 : Int32) by decide), if_neg (show ¬ nI 60 = (37 : Int32) by decide), if_neg (show ¬ nI 60 = (38 : Int32) by decide), if_neg (show ¬ nI 60 = (38 : Int32) by decide), if_neg (show ¬ nI 60 = (42 : Int32) by decide), if_neg (show ¬ nI 60 = (42 : Int32) by decide), if_neg (show ¬ nI 60 = (43 : Int32) by decide), if_neg (show ¬ nI 60 = (43 : Int32) by decide), if_neg (show ¬ nI 60 = (45 : Int32) by decide), if_neg (show ¬ nI 60 = (45 : Int32) by decide), if_neg (show ¬ nI 60 = (47 : Int32) by decide), if_neg (show ¬ nI 60 = (47 : Int32) by decide), if_pos (show nI 60 = (60 : Int32) from rfl), if_pos (show nI 60 = (60 : Int32) from rfl)]
      by_cases c : y ≤ x
      · refine ⟨0, ?_, ?_⟩ <;> rw [if_pos c]
      · refine ⟨1, ?_, ?_⟩ <;> rw [if_neg c]
    · rw [if_neg (show ¬ nI 61 = (37 : Int32) by decide), if_neg (show ¬ nI 61 = (37 : Int32) by decide), if_neg (show ¬ nI 61 = (38 : Int32) by decide), if_neg (show ¬ nI 61 = (38 : Int32) by decide), if_neg (show ¬ nI 61 = (42 : Int32) by decide), if_neg (show ¬ nI 61 = (42 : Int32) by decide), if_neg (show ¬ nI 61 = (43 : Int32) by decide), if_neg (show ¬ nI 61 = (43 : Int32) by decide), if_neg (show ¬ nI 61 = (45 : Int32) by decide), if_neg (show ¬ nI 61 = (45 : Int32) by decide), if_neg (show ¬ nI 61 = (47 : Int32) by decide), if_neg (show ¬ nI 61 = (47 : Int32) by decide), if_neg (show ¬ nI 61 = (60 : Int32) by decide), if_neg (show ¬ nI 61 = (60 : Int32) by decide), if_pos (show nI 61 = (61 : Int32) from rfl), if_pos (show nI 61 = (61 : Int32) from rfl)]
      by_cases c : x = y
      · refine ⟨1, ?_, ?_⟩ <;> rw [if_pos c]
      · refine ⟨0, ?_, ?_⟩ <;> rw [if_neg c]
    · rw [if_neg (show ¬ nI 62 = (37 : Int32) by decide), if_neg (show ¬ nI 62 = (37 : Int32) by decide), if_neg (show ¬ nI 62 = (38 : Int32) by decide), if_neg (show ¬ nI 62 = (38 : Int32) by decide), if_neg (show ¬ nI 62 = (42 : Int32) by decide), if_neg (show ¬ nI 62 = (42 : Int32) by decide), if_neg (show ¬ nI 62 = (43 : Int32) by decide), if_neg (show ¬ nI 62 = (43 : Int32) by decide), if_neg (show ¬ nI 62 = (45 : Int32) by decide), if_neg (show ¬ nI 62 = (45 : Int32) by decide), if_neg (show ¬ nI 62 = (47 : Int32) by decide), if_neg (show ¬ nI 62 = (47 : Int32) by decide), if_neg (show ¬ nI 62 = (60 : Int32) by decide), if_neg (show ¬ nI 62 = (60 : Int32) by decide), if_neg (show ¬ nI 62 = (61 : Int32) by decide), if_neg (show ¬ nI 62 = (61 : Int32) by decide), if_pos (show nI 62 = (62 : Int32) from rfl), if_pos (show nI 62 = (62 : Int32) from rfl)]
      by_cases c : x ≤ y
      · refine ⟨0, ?_, ?_⟩ <;> rw [if_pos c]
      · refine ⟨1, ?_, ?_⟩ <;> rw [if_neg c]
    · rw [if_neg (show ¬ nI 124 = (37 : Int32) by decide), if_neg (show ¬ nI 124 = (37 : Int32) by decide), if_neg (show ¬ nI 124 = (38 : Int32) by decide), if_neg (show ¬ nI 124 = (38 : Int32) by decide), if_neg (show ¬ nI 124 = (42 : Int32) by decide), if_neg (show ¬ nI 124 = (42 : Int32) by decide), if_neg (show ¬ nI 124 = (43 : Int32) by decide), if_neg (show ¬ nI 124 = (43 : Int32) by decide), if_neg (show ¬ nI 124 = (45 : Int32) by decide), if_neg (show ¬ nI 124 = (45 : Int32) by decide), if_neg (show ¬ nI 124 = (47 : Int32) by decide), if_neg (show ¬ nI 124 = (47 : Int32) by decide), if_neg (show ¬ nI 124 = (60 : Int32) by decide), if_neg (show ¬ nI 124 = (60 : Int32) by decide), if_neg (show ¬ nI 124 = (61 : Int32) by decide), if_neg (show ¬ nI 124 = (61 : Int32) by decide), if_neg (show ¬ nI 124 = (62 : Int32) by decide), if_neg (show ¬ nI 124 = (62 : Int32) by decide), if_pos (show nI 124 = (124 : Int32) from rfl)]
      unfold s_M_twoOf_c203
      by_cases c : x = 0
      · by_cases c2 : y = 0
        · refine ⟨0, ?_, ?_⟩ <;> rw [if_pos c, if_pos c2]
        · refine ⟨1, ?_, ?_⟩ <;> rw [if_pos c, if_neg c2]
      · refine ⟨1, ?_, ?_⟩ <;> rw [if_neg c]
  obtain ⟨z, h1, h2⟩ := key
  have e : tw op x y = z := by unfold tw; rw [h1]; rfl
  rw [e]
  exact ⟨h1, h2⟩
/-- a text in both programs: len steps, of each its sign, its number, how many values lie ahead of it -/
def CdR (len : Nat) (o v d : Nat → Nat) (steps : Nat → Int32) (cnt : Int32) (base : Nat) (R : Nat → Int32) : Prop :=
  len ≤ 60 ∧ cnt = nI len ∧ R base = nI len ∧ d 0 = 0 ∧ ∀ k, k < len → R (base + 1 + k) = nI (o k) ∧ d k ≤ k ∧
    ((o k = 1 ∧ v k < 10000 ∧ R (base + 61 + k) = nI (v k) ∧ steps k = nI (v k) ∧ d (k + 1) = d k + 1) ∨ (o k = 2 ∧ v k < 3 ∧ R (base + 61 + k) = nI (v k) ∧ steps k = nI (10000 + v k) ∧ d (k + 1) = d k + 1) ∨ (o k = 3 ∧ steps k = nI 20033 ∧ 1 ≤ d k ∧ d (k + 1) = d k) ∨ (bop (o k) ∧ steps k = nI (20000 + o k) ∧ 2 ≤ d k ∧ d (k + 1) = d k - 1))
def nam (v : Nat) (a b c : Int32) : Int32 := if v = 0 then a else if v = 1 then b else c
def stp (o v d : Nat → Nat) (a b c : Int32) (k : Nat) (f : Nat → Int32) : Nat → Int32 := if o k = 1 then upd f (d k) (nI (v k)) else if o k = 2 then upd f (d k) (nam (v k) a b c) else if o k = 3 then upd f (d k - 1) (if f (d k - 1) = 0 then 1 else 0) else upd f (d k - 2) (tw (o k) (f (d k - 2)) (f (d k - 1)))
def ex (o v d : Nat → Nat) (a b c : Int32) : Nat → Nat → (Nat → Int32) → Int32
  | 0, _, f => f 0
  | m + 1, k, f => ex o v d a b c m (k + 1) (stp o v d a b c k f)
theorem CdR_d1 {len : Nat} {o v d : Nat → Nat} {steps : Nat → Int32} {cnt : Int32} {base : Nat} {R : Nat → Int32} (h : CdR len o v d steps cnt base R) : ∀ k, k ≤ len → (k = 0 ∨ 1 ≤ d k) := by
  intro k
  induction k with
  | zero => intro _; exact Or.inl rfl
  | succ k ih =>
    intro hk
    right
    obtain ⟨-, -, -, h0, h1⟩ := h
    obtain ⟨-, -, h2⟩ := h1 k (by omega)
    rcases h2 with ⟨-, -, -, -, e⟩ | ⟨-, -, -, -, e⟩ | ⟨-, -, e1, e⟩ | ⟨-, -, e1, e⟩ <;> omega
theorem ex_agree {len : Nat} {o v d : Nat → Nat} {steps : Nat → Int32} {cnt : Int32} {base : Nat} {R : Nat → Int32} (h : CdR len o v d steps cnt base R) (a b c : Int32) : ∀ (m k : Nat) (f g : Nat → Int32), k + m = len → 0 < len → (∀ j, j < d k → f j = g j) → ex o v d a b c m k f = ex o v d a b c m k g := by
  intro m
  induction m with
  | zero =>
    intro k f g hk hl hfg
    unfold ex
    rcases CdR_d1 h k (by omega) with e | e
    · omega
    · exact hfg 0 (by omega)
  | succ m ih =>
    intro k f g hk hl hfg
    unfold ex
    apply ih (k + 1) _ _ (by omega) hl
    intro j hj
    obtain ⟨-, -, -, -, h1⟩ := h
    obtain ⟨-, -, h2⟩ := h1 k (by omega)
    unfold stp
    rcases h2 with ⟨e, -, -, -, e2⟩ | ⟨e, -, -, -, e2⟩ | ⟨e, -, e1, e2⟩ | ⟨e, -, e1, e2⟩
    · rw [if_pos e, if_pos e]
      by_cases q : j = d k
      · rw [q, pk_us, pk_us]
      · rw [pk_un q, pk_un q]; exact hfg j (by omega)
    · rw [if_neg (show ¬ o k = 1 by omega), if_pos e, if_neg (show ¬ o k = 1 by omega), if_pos e]
      by_cases q : j = d k
      · rw [q, pk_us, pk_us]
      · rw [pk_un q, pk_un q]; exact hfg j (by omega)
    · rw [if_neg (show ¬ o k = 1 by omega), if_neg (show ¬ o k = 2 by omega), if_pos e, if_neg (show ¬ o k = 1 by omega), if_neg (show ¬ o k = 2 by omega), if_pos e, hfg (d k - 1) (by omega)]
      by_cases q : j = d k - 1
      · rw [q, pk_us, pk_us]
      · rw [pk_un q, pk_un q]; exact hfg j (by omega)
    · have hb : o k ≠ 1 ∧ o k ≠ 2 ∧ o k ≠ 3 := by unfold bop at e; omega
      rw [if_neg hb.1, if_neg hb.2.1, if_neg hb.2.2, if_neg hb.1, if_neg hb.2.1, if_neg hb.2.2, hfg (d k - 2) (by omega), hfg (d k - 1) (by omega)]
      by_cases q : j = d k - 2
      · rw [q, pk_us, pk_us]
      · rw [pk_un q, pk_un q]; exact hfg j (by omega)
theorem p_named {v : Nat} (hv : v < 3) (a b c : Int32) : s_Law_named (nI v) a b c = some (nam v a b c) := by
  unfold s_Law_named nam
  rcases (show v = 0 ∨ v = 1 ∨ v = 2 by omega) with e | e | e <;> subst e <;> rfl
theorem p_work {len : Nat} {o v d : Nat → Nat} {steps : Nat → Int32} {cnt : Int32} {base : Nat} {R : Nat → Int32} (h : CdR len o v d steps cnt base R) (a b c : Int32) : ∀ (fuel m k : Nat) (f : Nat → Int32), k + m = len → m < fuel → ∃ f', s_Law_work_c6 a b c steps cnt fuel (nI (d k)) (nI k) f = some (ex o v d a b c m k f, f') := by
  obtain ⟨hlen, hcnt, -, -, h1⟩ := id h
  intro fuel
  induction fuel with
  | zero => intro m k f _ hm; exact absurd hm (Nat.not_lt_zero _)
  | succ fuel ih =>
    intro m k f hk hm
    rw [s_Law_work_c6, hcnt]
    cases m with
    | zero =>
      rw [if_pos (nI_le (by omega) (by omega))]
      exact ⟨f, rfl⟩
    | succ m =>
      obtain ⟨-, hdk, h2⟩ := h1 k (by omega)
      rw [if_neg (nI_ge (by omega) (by omega)), if_neg (show ¬ (60 : Int32) ≤ nI k from nI_ge (b := 60) (by omega) (by omega)), p_chk (by omega) (by omega), nI_clamp (by omega)]
      obtain ⟨f', hf'⟩ := ih m (k + 1) (stp o v d a b c k f) (by omega) (by omega)
      refine ⟨f', ?_⟩
      rw [← hcnt]
      unfold ex
      rw [← hf']
      unfold stp
      rcases h2 with ⟨e, hv, -, hs, e2⟩ | ⟨e, hv, -, hs, e2⟩ | ⟨e, hs, e1, e2⟩ | ⟨e, hs, e1, e2⟩
      · rw [hs, if_neg (show ¬ (20000 : Int32) ≤ nI (v k) from nI_ge (b := 20000) (by omega) (by omega)), if_neg (show ¬ (60 : Int32) ≤ nI (d k) from nI_ge (b := 60) (by omega) (by omega)), if_neg (show ¬ (10000 : Int32) ≤ nI (v k) from nI_ge (b := 10000) (by omega) (by omega))]
        unfold s_Law_work_c77 s_Law_work_c184
        rw [p_chk (by omega) (by omega), nI_clamp (by omega), nI_1, nI_1, if_pos e, e2]
      · rw [hs, if_neg (show ¬ (20000 : Int32) ≤ nI (10000 + v k) from nI_ge (b := 20000) (by omega) (by omega)), if_neg (show ¬ (60 : Int32) ≤ nI (d k) from nI_ge (b := 60) (by omega) (by omega)), if_pos (show (10000 : Int32) ≤ nI (10000 + v k) from nI_le (a := 10000) (by omega) (by omega)), show nI (10000 + v k) - (10000 : Int32) = nI (v k) from by rw [p_lit 10000, pk_sub (by omega), Nat.add_sub_cancel_left], p_named hv, p_b1]
        unfold s_Law_work_c77 s_Law_work_c184
        rw [p_chk (by omega) (by omega), nI_clamp (by omega), nI_1, nI_1, if_neg (show ¬ o k = 1 by omega), if_pos e, e2]
      · rw [hs, if_pos (show (20000 : Int32) ≤ nI 20033 from nI_le (a := 20000) (by omega) (by omega)), if_pos (show nI 20033 = (20033 : Int32) from rfl), if_neg (show ¬ nI (d k) < (1 : Int32) from nI_nlt (b := 1) (by omega) (by omega)), if_neg (show ¬ (60 : Int32) < nI (d k) from nI_nlt (a := 60) (by omega) (by omega)), show nI (d k) - (1 : Int32) = nI (d k - 1) from by rw [p_lit 1, pk_sub (by omega)], p_chk (by omega) (by omega), nI_clamp (by omega), if_neg (show ¬ o k = 1 by omega), if_neg (show ¬ o k = 2 by omega), if_pos e]
        unfold s_Law_work_c130 s_Law_work_c184
        rw [p_chk (by omega) (by omega), p_chk (by omega) (by omega), nI_clamp (by omega), nI_1, e2]
        by_cases q : f (d k - 1) = 0
        · rw [if_pos q, if_pos q]
        · rw [if_neg q, if_neg q]
      · have hb : o k ≠ 1 ∧ o k ≠ 2 ∧ o k ≠ 3 ∧ o k < 125 ∧ 37 ≤ o k := by unfold bop at e; omega
        have hw : nI (d k) + (-1 : Int32) = nI (d k - 1) := by
          have := pk_m1 (d k - 1)
          rw [show d k - 1 + 1 = d k by omega] at this
          exact this
        have hw2 : nI (d k - 1) - (1 : Int32) = nI (d k - 2) := by
          rw [p_lit 1, pk_sub (by omega)]
          congr 1
        rw [hs, if_pos (show (20000 : Int32) ≤ nI (20000 + o k) from nI_le (a := 20000) (by omega) (by omega)), if_neg (show ¬ nI (20000 + o k) = (20033 : Int32) from fun z => by
          have := (nI_eq (a := 20000 + o k) (b := 20033) (by omega) (by omega)).mp z
          unfold bop at e; omega), if_neg (show ¬ nI (d k) < (2 : Int32) from nI_nlt (b := 2) (by omega) (by omega)), if_neg (show ¬ (60 : Int32) < nI (d k) from nI_nlt (a := 60) (by omega) (by omega)), hw, hw2, p_chk (by omega) (by omega), p_chk (by omega) (by omega), nI_clamp (by omega), nI_clamp (by omega), show nI (20000 + o k) - (20000 : Int32) = nI (o k) from by rw [p_lit 20000, pk_sub (by omega), Nat.add_sub_cancel_left], (p_two e _ _).2, p_b1, p_chk (by omega) (by omega)]
        unfold s_Law_work_c184
        rw [nI_1, if_neg hb.1, if_neg hb.2.1, if_neg hb.2.2.1, e2]
theorem p_works {len : Nat} {o v d : Nat → Nat} {steps : Nat → Int32} {cnt : Int32} {base : Nat} {R : Nat → Int32} (h : CdR len o v d steps cnt base R) (hbase : base ≤ 276) (a b c : Int32) (F : Nat → Int32) (hF : F 0 = a ∧ F 1 = b ∧ F 2 = c) : ∀ (fuel m k : Nat) (f : Nat → Int32), k + m = len → m < fuel → ∃ f', s_M_works_c4 (nI base) R F fuel (nI (d k)) (nI k) f = some (ex o v d a b c m k f, f') := by
  obtain ⟨hlen, -, hR, -, h1⟩ := id h
  intro fuel
  induction fuel with
  | zero => intro m k f _ hm; exact absurd hm (Nat.not_lt_zero _)
  | succ fuel ih =>
    intro m k f hk hm
    rw [s_M_works_c4, p_chk (by omega) (by omega), nI_clamp (by omega), hR]
    cases m with
    | zero =>
      rw [if_pos (nI_le (by omega) (by omega))]
      exact ⟨f, rfl⟩
    | succ m =>
      obtain ⟨ho, hdk, h2⟩ := h1 k (by omega)
      have e1 : (nI base + (1 : Int32)) + nI k = nI (base + 1 + k) := by rw [p_lit 1, nI_add, nI_add]
      have e61 : (nI base + (61 : Int32)) + nI k = nI (base + 61 + k) := by rw [p_lit 61, nI_add, nI_add]
      rw [if_neg (nI_ge (by omega) (by omega)), e1, p_chk (by omega) (by omega), nI_clamp (by omega), ho]
      obtain ⟨f', hf'⟩ := ih m (k + 1) (stp o v d a b c k f) (by omega) (by omega)
      refine ⟨f', ?_⟩
      unfold ex
      rw [← hf']
      unfold stp
      rcases h2 with ⟨e, hv, hr, -, e2⟩ | ⟨e, hv, hr, -, e2⟩ | ⟨e, -, e3, e2⟩ | ⟨e, -, e3, e2⟩
      · rw [if_pos (show nI (o k) = (1 : Int32) by rw [e]; rfl)]
        unfold s_M_works_c38 s_M_works_c79 s_M_works_c149
        rw [if_pos (show nI (o k) = (1 : Int32) by rw [e]; rfl), e61, p_chk (by omega) (by omega), p_chk (by omega) (by omega), nI_clamp (by omega), nI_clamp (by omega), hr, nI_1, nI_1, if_pos e, e2]
      · rw [if_neg (show ¬ nI (o k) = (1 : Int32) by rw [e]; decide), if_pos (show nI (o k) = (2 : Int32) by rw [e]; rfl)]
        unfold s_M_works_c38 s_M_works_c79 s_M_works_c149
        rw [if_neg (show ¬ nI (o k) = (1 : Int32) by rw [e]; decide), e61, p_chk (by omega) (by omega), nI_clamp (by omega), hr, p_chk (by omega) (by omega), p_chk (by omega) (by omega), nI_clamp (by omega), nI_clamp (by omega), nI_1, nI_1, if_neg (show ¬ o k = 1 by omega), if_pos e, e2]
        have hn : F (v k) = nam (v k) a b c := by
          unfold nam
          rcases (show v k = 0 ∨ v k = 1 ∨ v k = 2 by omega) with z | z | z <;> rw [z]
          · exact hF.1
          · exact hF.2.1
          · exact hF.2.2
        rw [hn]
      · have hw2 : nI (d k) - (1 : Int32) = nI (d k - 1) := by rw [p_lit 1, pk_sub (by omega)]
        rw [if_neg (show ¬ nI (o k) = (1 : Int32) by rw [e]; decide), if_neg (show ¬ nI (o k) = (2 : Int32) by rw [e]; decide), if_pos (show nI (o k) = (3 : Int32) by rw [e]; rfl), hw2, p_chk (by omega) (by omega), nI_clamp (by omega), if_neg (show ¬ o k = 1 by omega), if_neg (show ¬ o k = 2 by omega), if_pos e]
        unfold s_M_works_c115 s_M_works_c149
        rw [p_chk (by omega) (by omega), p_chk (by omega) (by omega), nI_clamp (by omega), nI_1, e2]
        by_cases q : f (d k - 1) = 0
        · rw [if_pos q, if_pos q]
        · rw [if_neg q, if_neg q]
      · have hb : o k ≠ 1 ∧ o k ≠ 2 ∧ o k ≠ 3 ∧ o k < 125 ∧ 37 ≤ o k := by unfold bop at e; omega
        have hw : nI (d k) + (-1 : Int32) = nI (d k - 1) := by
          have := pk_m1 (d k - 1)
          rw [show d k - 1 + 1 = d k by omega] at this
          exact this
        have hw2 : nI (d k - 1) - (1 : Int32) = nI (d k - 2) := by
          rw [p_lit 1, pk_sub (by omega)]
          congr 1
        have hne : ∀ q, q < 37 → ¬ nI (o k) = nI q := fun q hq z => by
          have := (nI_eq (a := o k) (b := q) (by omega) (by omega)).mp z
          omega
        rw [if_neg (show ¬ nI (o k) = (1 : Int32) from hne 1 (by omega)), if_neg (show ¬ nI (o k) = (2 : Int32) from hne 2 (by omega)), if_neg (show ¬ nI (o k) = (3 : Int32) from hne 3 (by omega)), hw, hw2, p_chk (by omega) (by omega), p_chk (by omega) (by omega), nI_clamp (by omega), nI_clamp (by omega), (p_two e _ _).1, p_b1, p_chk (by omega) (by omega)]
        unfold s_M_works_c149
        rw [nI_1, if_neg hb.1, if_neg hb.2.1, if_neg hb.2.2.1, e2]
/-- what a text of steps gives -/
def vl (len : Nat) (o v d : Nat → Nat) (a b c : Int32) : Int32 := ex o v d a b c len 0 (fun _ => 0)
theorem r_work {len : Nat} {o v d : Nat → Nat} {steps : Nat → Int32} {cnt : Int32} {base : Nat} {R : Nat → Int32} (h : CdR len o v d steps cnt base R) (hl : 0 < len) (a b c : Int32) (f : Nat → Int32) : ∃ f', s_Law_work a b c steps f cnt = some (vl len o v d a b c, f') := by
  obtain ⟨f', hf⟩ := p_work h a b c 400 len 0 f (by omega) (by have := h.1; omega)
  refine ⟨f', ?_⟩
  unfold s_Law_work vl
  rw [ex_agree h a b c len 0 (fun _ => 0) f (by omega) hl (fun j hj => absurd hj (by rw [h.2.2.2.1]; omega))]
  rw [h.2.2.2.1] at hf
  exact hf
theorem r_works {len : Nat} {o v d : Nat → Nat} {steps : Nat → Int32} {cnt : Int32} {base : Nat} {R : Nat → Int32} (h : CdR len o v d steps cnt base R) (hbase : base ≤ 276) (hl : 0 < len) (a b c : Int32) (F f : Nat → Int32) (hF : F 0 = a ∧ F 1 = b ∧ F 2 = c) : ∃ f', s_M_works (nI base) R F f = some (vl len o v d a b c, f') := by
  obtain ⟨f', hf⟩ := p_works h hbase a b c F hF 400 len 0 f (by omega) (by have := h.1; omega)
  refine ⟨f', ?_⟩
  unfold s_M_works vl
  rw [ex_agree h a b c len 0 (fun _ => 0) f (by omega) hl (fun j hj => absurd hj (by rw [h.2.2.2.1]; omega))]
  rw [h.2.2.2.1] at hf
  exact hf
