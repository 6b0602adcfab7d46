/-! pure 22: where one lands by walls alone; sets -/
def rs (wl : Int64) (c w : Nat) : Nat := slc (fun d => !bL wl d) w (dst w c) c
theorem rs_lt {wl : Int64} {c w : Nat} (h : c < 36) : rs wl c w < 36 := slc_lt _ _ h
theorem rs_or {wl : Int64} {c w : Nat} : rs wl c w = c ∨ bL wl (rs wl c w) = false := by
  rcases slc_or (fr := fun d => !bL wl d) (w := w) (dst w c) c with h | h
  · exact Or.inl h
  · exact Or.inr (by show bL wl (slc (fun d => !bL wl d) w (dst w c) c) = false; simpa using h)
theorem p_rest (wl : Int64) {w : Nat} (hw : w < 4) {c : Nat} (hc : c < 36) : s_Grid_rest wl (nI c) (nI w) = some (nI (rs wl c w)) := by
  have key : ∀ (k m c i : Nat), i + m = 6 → m < k → c < 36 → s_Grid_rest_c6 wl (nI w) k (nI c) (nI i) = some (nI (slc (fun d => !bL wl d) w m c)) := by
    intro k
    induction k with
    | zero => intro m c i _ h; exact absurd h (Nat.not_lt_zero _)
    | succ k ih =>
      intro m c i h1 h2 hc
      rw [s_Grid_rest_c6]
      cases m with
      | zero => rw [if_pos (show (6 : Int32) ≤ nI i from nI_le (a := 6) (by omega) (by omega))]; rfl
      | succ m =>
        rw [if_neg (show ¬ (6 : Int32) ≤ nI i from nI_ge (b := 6) (by omega) (by omega)), p_next c hc w hw, p_b1]
        unfold slc
        by_cases q : nx c w < 36
        · rw [if_pos q, if_neg (p_nlt0 (by omega)), p_isIn wl (by omega), p_b1]
          cases hf : bL wl (nx c w) with
          | true =>
            rw [if_neg (show ¬ (if true = true then (1 : Int32) else 0) = 0 by decide), if_neg (show ¬ (nx c w < 36 ∧ (!true) = true) from fun z => nomatch z.2)]
          | false =>
            rw [if_pos (show (if false = true then (1 : Int32) else 0) = 0 from rfl), if_pos (show nx c w < 36 ∧ (!false) = true from ⟨q, rfl⟩), nI_1]
            exact ih m (nx c w) (i + 1) (by omega) (by omega) q
        · rw [if_neg q, if_pos (by decide), if_neg (fun z => q z.1)]
  have := key 400 5 c 1 (by omega) (by omega) hc
  rw [(sl_far hw 5 c hc (dst_le c hc w hw)).2] at this
  exact this
def hWl (wl : Int64) (R : Nat → Int32) : Prop := ∀ c, c < 36 → R (5 + c) = if bL wl c = true then 1 else 0
theorem p_wl {wl : Int64} {R : Nat → Int32} (h : hWl wl R) {c : Nat} (hc : c < 36) : s_M_isWall (nI c) R = some (if bL wl c = true then 1 else 0) := by
  rw [p_isWall hc, h c hc]
  cases bL wl c <;> rfl
theorem p_landsM {wl : Int64} {R : Nat → Int32} (h : hWl wl R) {w : Nat} (hw : w < 4) {c : Nat} (hc : c < 36) : s_M_landsFrom (nI c) (nI w) R = some (nI (rs wl c w)) := by
  have key : ∀ (k c : Nat), c < 36 → dst w c < k → s_M_landsFrom_c9 (nI w) R k (nI c) (if nx c w < 36 then nI (nx c w) else -1) = some (nI (rs wl c w)) := by
    intro k
    induction k with
    | zero => intro c _ h; exact absurd h (Nat.not_lt_zero _)
    | succ k ih =>
      intro c hc hk
      rw [s_M_landsFrom_c9]
      unfold rs
      by_cases q : nx c w < 36
      · have hd := nx_dst c hc w hw q
        rw [if_pos q, if_neg (p_nlt0 (by omega)), p_wl h q, p_b1, ← hd]
        unfold slc
        cases hf : bL wl (nx c w) with
        | true =>
          rw [if_neg (show ¬ (if true = true then (1 : Int32) else 0) = 0 by decide), if_neg (show ¬ (nx c w < 36 ∧ (!true) = true) from fun z => nomatch z.2)]
        | false =>
          rw [if_pos (show (if false = true then (1 : Int32) else 0) = 0 from rfl), if_pos (show nx c w < 36 ∧ (!false) = true from ⟨q, rfl⟩), p_nextTo _ q w hw, p_b1]
          exact ih (nx c w) q (by omega)
      · rw [if_neg q, if_pos (by decide)]
        cases dst w c with
        | zero => rfl
        | succ m => unfold slc; rw [if_neg (fun z => q z.1)]
  unfold s_M_landsFrom
  rw [p_nextTo c hc w hw, p_b1]
  exact key 400 c hc (by have := dst_le c hc w hw; omega)
/-- landings, learnt -/
def LdR (rests : Nat → Int32) (wl : Int64) : Prop := ∀ j, j < 144 → rests j = nI (rs wl (j % 36) (j / 36))
theorem p_learn (wl wl0 : Int64) (rests : Nat → Int32) : ∃ rests', s_Landings_learn wl rests wl0 = some (rests', wl) ∧ LdR rests' wl := by
  have key : ∀ (k m i : Nat) (rests : Nat → Int32), i + m = 144 → m < k → (∀ j, j < i → rests j = nI (rs wl (j % 36) (j / 36))) → ∃ rests', s_Landings_learn_c7 wl k (nI i) rests = some (rests', wl) ∧ LdR rests' wl := by
    intro k
    induction k with
    | zero => intro m i _ _ h; exact absurd h (Nat.not_lt_zero _)
    | succ k ih =>
      intro m i rests h1 h2 hr
      rw [s_Landings_learn_c7]
      cases m with
      | zero =>
        rw [if_pos (show (144 : Int32) ≤ nI i from nI_le (a := 144) (by omega) (by omega))]
        exact ⟨rests, rfl, fun j hj => hr j (by omega)⟩
      | succ m =>
        rw [if_neg (show ¬ (144 : Int32) ≤ nI i from nI_ge (b := 144) (by omega) (by omega)), show nI i - nI i / (36 : Int32) * (36 : Int32) = nI (i % 36) from pk_rem (d := 36) (by omega) (by decide) (by decide), show nI i / (36 : Int32) = nI (i / 36) from pk_div (d := 36) (by omega) (by decide) (by decide), p_rest wl (by omega) (Nat.mod_lt _ (by decide)), p_b1, p_chk (by omega) (by omega), nI_clamp (by omega), nI_1]
        refine ih m (i + 1) _ (by omega) (by omega) (fun j hj => ?_)
        by_cases q : j = i
        · rw [q, pk_us]
        · rw [pk_un q]; exact hr j (by omega)
  exact key 400 144 0 rests (by omega) (by omega) (fun j hj => absurd hj (Nat.not_lt_zero _))
theorem p_Lrest {rests : Nat → Int32} {wl : Int64} (h : LdR rests wl) {c w : Nat} (hc : c < 36) (hw : w < 4) : s_Landings_rest (nI c) (nI w) rests = some (nI (rs wl c w)) := by
  have e : (nI w * (36 : Int32)) + nI c = nI (w * 36 + c) := by rw [p_lit 36, pk_mul, nI_add]
  unfold s_Landings_rest
  rw [e, if_neg (p_nlt0 (by omega)), if_neg (show ¬ (144 : Int32) ≤ nI (w * 36 + c) from nI_ge (b := 144) (by omega) (by omega)), p_chk (by omega) (by omega), nI_clamp (by omega), h _ (by omega), show (w * 36 + c) % 36 = c by omega, show (w * 36 + c) / 36 = w by omega]
/-- bits told by a row of choices -/
theorem p_shS1 : ∀ k, k < 64 → (((nI k).toInt64 &&& (63 : Int64)).toBitVec.smod 64).toNat = k := by decide +kernel
theorem p_bitS (s : Int64) {c : Nat} (hc : c < 64) : (j_lshr s (nI c) &&& (1 : Int64)) = if bL s c = true then 1 else 0 := by
  have h1 : ∀ i, i < 64 → (1 : Int64).toBitVec.getLsbD i = decide (i = 0) := by decide +kernel
  have e : (j_lshr s (nI c)).toBitVec = s.toBitVec.sshiftRight' (((nI c).toInt64 &&& (63 : Int64)).toBitVec.smod 64) := Int64.toBitVec_shiftRight _ _
  apply bL_ext
  intro i hi
  rw [bL_and]
  unfold bL
  rw [h1 i hi, e]
  by_cases q : i = 0
  · subst q
    rw [BitVec.getLsbD_sshiftRight', p_shS1 c hc, if_pos (by omega)]
    cases hb : s.toBitVec.getLsbD c with
    | true => rw [if_pos rfl, h1 0 (by omega)]; simp [hb]
    | false => rw [if_neg (by decide)]; simp [hb]
  · rw [decide_eq_false q, Bool.and_false]
    cases s.toBitVec.getLsbD c with
    | true => rw [if_pos rfl, h1 i hi, decide_eq_false q]
    | false => rw [if_neg (by decide)]; simp
theorem p_bit1 (s : Int64) {c : Nat} (hc : c < 64) : lg_cmp (j_lshr s (nI c) &&& (1 : Int64)) (1 : Int64) = 0 ↔ bL s c = true := by
  rw [p_bitS s hc, p_cmp1]
  cases bL s c <;> decide
theorem p_bit0 (s : Int64) {c : Nat} (hc : c < 64) : lg_cmp (j_lshr s (nI c) &&& (1 : Int64)) (0 : Int64) = 0 ↔ bL s c = false := by
  rw [p_bitS s hc, p_cmp0]
  cases bL s c <;> decide
theorem p_spread {rests : Nat → Int32} {wl : Int64} (h : LdR rests wl) {w : Nat} (hw : w < 4) (set : Int64) : ∃ s', s_Landings_spread set (nI w) rests = some s' ∧ ∀ c, c < 64 → (bL s' c = true ↔ ∃ d, d < 36 ∧ bL set d = true ∧ rs wl d w = c) := by
  have key : ∀ (k m i : Nat) (acc : Int64), i + m = 36 → m < k → ∃ s', s_Landings_spread_c6 set (nI w) rests k acc (nI i) = some s' ∧ ∀ c, c < 64 → (bL s' c = true ↔ bL acc c = true ∨ ∃ d, i ≤ d ∧ d < 36 ∧ bL set d = true ∧ rs wl d w = c) := by
    intro k
    induction k with
    | zero => intro m i _ _ h; exact absurd h (Nat.not_lt_zero _)
    | succ k ih =>
      intro m i acc h1 h2
      rw [s_Landings_spread_c6]
      cases m with
      | zero =>
        rw [if_pos (show (36 : Int32) ≤ nI i from nI_le (a := 36) (by omega) (by omega))]
        exact ⟨acc, rfl, fun c hc => ⟨Or.inl, fun z => z.elim id (fun ⟨d, d1, d2, _⟩ => absurd d1 (by omega))⟩⟩
      | succ m =>
        rw [if_neg (show ¬ (36 : Int32) ≤ nI i from nI_ge (b := 36) (by omega) (by omega)), p_isIn set (by omega), p_b1]
        unfold s_Landings_spread_c36
        rw [nI_1]
        cases hb : bL set i with
        | false =>
          rw [if_pos (show (if false = true then (1 : Int32) else 0) = 0 from rfl)]
          obtain ⟨s', e1, e2⟩ := ih m (i + 1) acc (by omega) (by omega)
          refine ⟨s', e1, fun c hc => (e2 c hc).trans ⟨fun z => z.elim Or.inl (fun ⟨d, d1, d2⟩ => Or.inr ⟨d, by omega, d2⟩), fun z => z.elim Or.inl (fun ⟨d, d1, d2, d3, d4⟩ => Or.inr ⟨d, ?_, d2, d3, d4⟩)⟩⟩
          rcases Nat.eq_or_lt_of_le d1 with e | e
          · rw [← e, hb] at d3; cases d3
          · exact e
        | true =>
          rw [if_neg (show ¬ (if true = true then (1 : Int32) else 0) = 0 by decide), p_Lrest h (by omega) hw, p_b1]
          obtain ⟨s', e1, e2⟩ := ih m (i + 1) (acc ||| (j_lshl (1 : Int64) (nI (rs wl i w)))) (by omega) (by omega)
          have hr : rs wl i w < 36 := rs_lt (by omega)
          refine ⟨s', e1, fun c hc => (e2 c hc).trans ?_⟩
          rw [bL_or, bL_one _ (by omega) c hc, Bool.or_eq_true, decide_eq_true_eq]
          constructor
          · rintro ((z | z) | ⟨d, d1, d2⟩)
            · exact Or.inl z
            · exact Or.inr ⟨i, by omega, by omega, hb, z.symm⟩
            · exact Or.inr ⟨d, by omega, d2⟩
          · rintro (z | ⟨d, d1, d2, d3, d4⟩)
            · exact Or.inl (Or.inl z)
            · rcases Nat.eq_or_lt_of_le d1 with e | e
              · subst e; exact Or.inl (Or.inr d4.symm)
              · exact Or.inr ⟨d, e, d2, d3, d4⟩
  obtain ⟨s', e1, e2⟩ := key 400 36 0 0 (by omega) (by omega)
  refine ⟨s', e1, fun c hc => (e2 c hc).trans ⟨fun z => z.elim (fun q => by rw [bL_0] at q; cases q) (fun ⟨d, _, d2⟩ => ⟨d, d2⟩), fun ⟨d, d2⟩ => Or.inr ⟨d, Nat.zero_le _, d2⟩⟩⟩
theorem p_onward {R : Nat → Int32} {wl : Int64} (h : hWl wl R) {w : Nat} (hw : w < 4) (set : Int64) : ∃ s', s_M_onward set (nI w) R = some s' ∧ ∀ c, c < 64 → (bL s' c = true ↔ bL set c = true ∨ ∃ d, d < 36 ∧ bL set d = true ∧ rs wl d w = c) := by
  have key : ∀ (k m i : Nat) (acc : Int64), i + m = 36 → m < k → ∃ s', s_M_onward_c6 set (nI w) R k acc (nI i) = some s' ∧ ∀ c, c < 64 → (bL s' c = true ↔ bL acc c = true ∨ ∃ d, i ≤ d ∧ d < 36 ∧ bL set d = true ∧ rs wl d w = c) := by
    intro k
    induction k with
    | zero => intro m i _ _ h; exact absurd h (Nat.not_lt_zero _)
    | succ k ih =>
      intro m i acc h1 h2
      rw [s_M_onward_c6]
      cases m with
      | zero =>
        rw [if_pos (show (36 : Int32) ≤ nI i from nI_le (a := 36) (by omega) (by omega))]
        exact ⟨acc, rfl, fun c hc => ⟨Or.inl, fun z => z.elim id (fun ⟨d, d1, d2, _⟩ => absurd d1 (by omega))⟩⟩
      | succ m =>
        rw [if_neg (show ¬ (36 : Int32) ≤ nI i from nI_ge (b := 36) (by omega) (by omega))]
        unfold s_M_onward_c39
        rw [nI_1]
        cases hb : bL set i with
        | false =>
          rw [if_neg (show ¬ lg_cmp (j_lshr set (nI i) &&& (1 : Int64)) (1 : Int64) = 0 from fun z => by rw [p_bit1 set (by omega), hb] at z; cases z)]
          obtain ⟨s', e1, e2⟩ := ih m (i + 1) (acc ||| 0) (by omega) (by omega)
          refine ⟨s', e1, fun c hc => (e2 c hc).trans ?_⟩
          rw [bL_or, bL_0, Bool.or_false]
          refine ⟨fun z => z.elim Or.inl (fun ⟨d, d1, d2⟩ => Or.inr ⟨d, by omega, d2⟩), fun z => z.elim Or.inl (fun ⟨d, d1, d2, d3, d4⟩ => Or.inr ⟨d, ?_, d2, d3, d4⟩)⟩
          rcases Nat.eq_or_lt_of_le d1 with e | e
          · rw [← e, hb] at d3; cases d3
          · exact e
        | true =>
          rw [if_pos ((p_bit1 set (by omega)).mpr hb), p_landsM h hw (by omega), p_b1]
          obtain ⟨s', e1, e2⟩ := ih m (i + 1) (acc ||| (j_lshl (1 : Int64) (nI (rs wl i w)))) (by omega) (by omega)
          have hr : rs wl i w < 36 := rs_lt (by omega)
          refine ⟨s', e1, fun c hc => (e2 c hc).trans ?_⟩
          rw [bL_or, bL_one _ (by omega) c hc, Bool.or_eq_true, decide_eq_true_eq]
          constructor
          · rintro ((z | z) | ⟨d, d1, d2⟩)
            · exact Or.inl z
            · exact Or.inr ⟨i, by omega, by omega, hb, z.symm⟩
            · exact Or.inr ⟨d, by omega, d2⟩
          · rintro (z | ⟨d, d1, d2, d3, d4⟩)
            · exact Or.inl (Or.inl z)
            · rcases Nat.eq_or_lt_of_le d1 with e | e
              · subst e; exact Or.inl (Or.inr d4.symm)
              · exact Or.inr ⟨d, e, d2, d3, d4⟩
  obtain ⟨s', e1, e2⟩ := key 400 36 0 set (by omega) (by omega)
  exact ⟨s', e1, fun c hc => (e2 c hc).trans ⟨fun z => z.elim Or.inl (fun ⟨d, _, d2⟩ => Or.inr ⟨d, d2⟩), fun z => z.elim Or.inl (fun ⟨d, d2⟩ => Or.inr ⟨d, Nat.zero_le _, d2⟩)⟩⟩
/-- an hour more, in both -/
theorem p_on {rests R : Nat → Int32} {wl : Int64} (h : LdR rests wl) (hw1 : hWl wl R) {w : Nat} (hw : w < 4) (set : Int64) : ∃ s', s_Landings_spread set (nI w) rests = some s' ∧ s_M_onward set (nI w) R = some (set ||| s') := by
  obtain ⟨s1, a1, a2⟩ := p_spread h hw set
  obtain ⟨s2, b1, b2⟩ := p_onward hw1 hw set
  refine ⟨s1, a1, ?_⟩
  have : s2 = set ||| s1 := by
    apply bL_ext
    intro c hc
    rw [bL_or, Bool.eq_iff_iff, b2 c hc, Bool.or_eq_true, a2 c hc]
  rw [b1, this]
theorem p_gather {rests : Nat → Int32} {wl : Int64} (h : LdR rests wl) {w : Nat} (hw : w < 4) (set : Int64) : ∃ s', s_Landings_gather set (nI w) rests wl = some s' ∧ ∀ c, c < 64 → (bL s' c = true ↔ c < 36 ∧ bL wl c = false ∧ bL set (rs wl c w) = true) := by
  have key : ∀ (k m i : Nat) (acc : Int64), i + m = 36 → m < k → ∃ s', s_Landings_gather_c6 set (nI w) rests wl k acc (nI i) = some s' ∧ ∀ c, c < 64 → (bL s' c = true ↔ bL acc c = true ∨ (i ≤ c ∧ c < 36 ∧ bL wl c = false ∧ bL set (rs wl c w) = true)) := by
    intro k
    induction k with
    | zero => intro m i _ _ h; exact absurd h (Nat.not_lt_zero _)
    | succ k ih =>
      intro m i acc h1 h2
      rw [s_Landings_gather_c6]
      have skip : ¬ (bL wl i = false ∧ bL set (rs wl i w) = true) → (∃ s', s_Landings_gather_c6 set (nI w) rests wl k acc (nI (i + 1)) = some s' ∧ ∀ c, c < 64 → (bL s' c = true ↔ bL acc c = true ∨ (i + 1 ≤ c ∧ c < 36 ∧ bL wl c = false ∧ bL set (rs wl c w) = true))) → ∃ s', s_Landings_gather_c6 set (nI w) rests wl k acc (nI (i + 1)) = some s' ∧ ∀ c, c < 64 → (bL s' c = true ↔ bL acc c = true ∨ (i ≤ c ∧ c < 36 ∧ bL wl c = false ∧ bL set (rs wl c w) = true)) := by
        rintro hn ⟨s', e1, e2⟩
        refine ⟨s', e1, fun c hc => (e2 c hc).trans ⟨fun z => z.elim Or.inl (fun z => Or.inr ⟨by omega, z.2⟩), fun z => z.elim Or.inl (fun ⟨z1, z2, z3⟩ => Or.inr ⟨?_, z2, z3⟩)⟩⟩
        rcases Nat.eq_or_lt_of_le z1 with e | e
        · rw [← e] at z3; exact absurd z3 hn
        · exact e
      cases m with
      | zero =>
        rw [if_pos (show (36 : Int32) ≤ nI i from nI_le (a := 36) (by omega) (by omega))]
        exact ⟨acc, rfl, fun c hc => ⟨Or.inl, fun z => z.elim id (fun z => absurd z.1 (by omega))⟩⟩
      | succ m =>
        rw [if_neg (show ¬ (36 : Int32) ≤ nI i from nI_ge (b := 36) (by omega) (by omega)), p_isIn wl (by omega), p_b1]
        unfold s_Landings_gather_c48
        rw [nI_1]
        have hr : rs wl i w < 36 := rs_lt (by omega)
        cases hb : bL wl i with
        | true =>
          rw [if_neg (show ¬ (if true = true then (1 : Int32) else 0) = 0 by decide)]
          exact skip (fun z => by rw [hb] at z; cases z.1) (ih m (i + 1) acc (by omega) (by omega))
        | false =>
          rw [if_pos (show (if false = true then (1 : Int32) else 0) = 0 from rfl), p_Lrest h (by omega) hw, p_b1, p_isIn set (by omega), p_b1]
          cases hs : bL set (rs wl i w) with
          | false =>
            rw [if_pos (show (if false = true then (1 : Int32) else 0) = 0 from rfl)]
            exact skip (fun z => by rw [hs] at z; cases z.2) (ih m (i + 1) acc (by omega) (by omega))
          | true =>
            rw [if_neg (show ¬ (if true = true then (1 : Int32) else 0) = 0 by decide)]
            obtain ⟨s', e1, e2⟩ := ih m (i + 1) (acc ||| (j_lshl (1 : Int64) (nI i))) (by omega) (by omega)
            refine ⟨s', e1, fun c hc => (e2 c hc).trans ?_⟩
            rw [bL_or, bL_one _ (by omega) c hc, Bool.or_eq_true, decide_eq_true_eq]
            constructor
            · rintro ((z | z) | z)
              · exact Or.inl z
              · subst z; exact Or.inr ⟨by omega, by omega, hb, hs⟩
              · exact Or.inr ⟨by omega, z.2⟩
            · rintro (z | ⟨z1, z2⟩)
              · exact Or.inl (Or.inl z)
              · rcases Nat.eq_or_lt_of_le z1 with e | e
                · exact Or.inl (Or.inr e.symm)
                · exact Or.inr ⟨e, z2⟩
  obtain ⟨s', e1, e2⟩ := key 400 36 0 0 (by omega) (by omega)
  refine ⟨s', e1, fun c hc => (e2 c hc).trans ⟨fun z => z.elim (fun q => by rw [bL_0] at q; cases q) (fun z => z.2), fun z => Or.inr ⟨Nat.zero_le _, z⟩⟩⟩
