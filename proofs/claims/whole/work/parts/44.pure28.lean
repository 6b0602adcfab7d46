/-! pure 30: move, walls -/
theorem p_st {s l : Nat} {ln : Nat → Int32} (hs : s < 4) (hl : ln s = nI l) (h24 : l ≤ 24) (i n : Int32) : (∃ i' k, i = nI i' ∧ n = nI k ∧ i' + k ≤ l ∧ s_Sheets_standThere (nI s) i n ln = some 1) ∨ (s_Sheets_standThere (nI s) i n ln = some 0 ∧ (n < 0 ∨ i < 0 ∨ (nI l - i) < n)) := by
  unfold s_Sheets_standThere
  rw [(p_shI hs).1, p_b1, if_neg (show ¬ (1 : Int32) = 0 by decide)]
  by_cases c1 : n < 0
  · exact Or.inr ⟨by rw [if_pos c1], Or.inl c1⟩
  · rw [if_neg c1]
    by_cases c2 : i < 0
    · exact Or.inr ⟨by rw [if_pos c2], Or.inr (Or.inl c2)⟩
    · rw [if_neg c2, p_chk hs (by omega), p_chk hs (by omega), nI_clamp (by omega), hl]
      have hi0 : 0 ≤ i.toInt := by
        rw [Int32.lt_iff_toInt_lt] at c2
        have : (0 : Int32).toInt = 0 := by decide
        omega
      have hn0 : 0 ≤ n.toInt := by
        rw [Int32.lt_iff_toInt_lt] at c1
        have : (0 : Int32).toInt = 0 := by decide
        omega
      have hi1 := (p_rng i).2
      have hn1 := (p_rng n).2
      have e1 : (nI l - i).toInt = (l : Int) - i.toInt := by rw [p_subI (by rw [p_ti l (by omega)]; omega) (by rw [p_ti l (by omega)]; omega), p_ti l (by omega)]
      have e2 : (nI l - n).toInt = (l : Int) - n.toInt := by rw [p_subI (by rw [p_ti l (by omega)]; omega) (by rw [p_ti l (by omega)]; omega), p_ti l (by omega)]
      by_cases g : i.toInt + n.toInt ≤ l
      · left
        refine ⟨i.toInt.toNat, n.toInt.toNat, p_toI (by omega) (by omega), p_toI (by omega) (by omega), by omega, ?_⟩
        rw [if_neg (by rw [Int32.lt_iff_toInt_lt, p_ti l (by omega)]; omega), if_neg (by rw [Int32.lt_iff_toInt_lt, e2]; omega)]
      · right
        refine ⟨?_, Or.inr (Or.inr (by rw [Int32.lt_iff_toInt_lt, e1]; omega))⟩
        rw [if_pos (show (nI l - n) < i by rw [Int32.lt_iff_toInt_lt, e2]; omega), ite_self]
theorem p_cp {a b k N0 N1 : Nat} {x : Option (Nat → Int32)} (h0 : a + k ≤ N0) (h1 : b + k ≤ N1) (ha : a < 2 ^ 31) (hb : b < 2 ^ 31) (hk : k < 2 ^ 31) : j_cp (nI a) (nI b) (nI k) N0 N1 x = x := by
  unfold j_cp
  refine if_neg (fun z => ?_)
  rw [nI_clamp ha, nI_clamp hb, nI_clamp hk] at z
  rcases z with z | z | z | z | z
  · exact p_nlt0 ha z
  · exact p_nlt0 hb z
  · exact p_nlt0 hk z
  · omega
  · omega
theorem cpyA {c : Nat → Int32} {sp dp e : Nat} (hno : ¬ (dp ≤ sp + e ∧ sp + e < dp + e)) : upd (va_cpy c c sp dp e) (dp + e) (va_cpy c c sp dp e (sp + e)) = va_cpy c c sp dp (e + 1) := by
  funext j
  by_cases q : j = dp + e
  · subst q
    rw [pk_us, pk_cpy_out (by omega), pk_cpy_in (by omega) (by omega), show sp + (dp + e - dp) = sp + e by omega]
  · rw [pk_un q]
    by_cases r : dp ≤ j ∧ j < dp + e
    · rw [pk_cpy_in r.1 r.2, pk_cpy_in r.1 (by omega)]
    · rw [pk_cpy_out (by omega), pk_cpy_out (by omega)]
theorem cpyD {c : Nat → Int32} {sp dp e : Nat} (hno : ¬ (dp + 1 ≤ sp ∧ sp < dp + 1 + e)) : upd (va_cpy c c (sp + 1) (dp + 1) e) dp (va_cpy c c (sp + 1) (dp + 1) e sp) = va_cpy c c sp dp (e + 1) := by
  funext j
  by_cases q : j = dp
  · subst q
    rw [pk_us, pk_cpy_out (by omega), pk_cpy_in (by omega) (by omega), show sp + (j - j) = sp by omega]
  · rw [pk_un q]
    by_cases r : dp + 1 ≤ j ∧ j < dp + 1 + e
    · rw [pk_cpy_in r.1 r.2, pk_cpy_in (by omega) (by omega), show sp + 1 + (j - (dp + 1)) = sp + (j - dp) by omega]
    · rw [pk_cpy_out (by omega), pk_cpy_out (by omega)]
theorem cpy0 {c : Nat → Int32} {sp dp : Nat} : va_cpy c c sp dp 0 = c := by
  funext j
  exact pk_cpy_out (by omega)
theorem p_moveA {s o i j k : Nat} {E2 c : Nat → Int32} (hs : s < 4) (ho : o < 4) (hi : i + k ≤ 24) (hj : j + k ≤ 24) (hd : j ≤ i) : ∀ (fuel q e : Nat), e + q = k → q < fuel → s_M_move_c28 (nI s) (nI i) (nI o) (nI j) (nI k) E2 fuel (nI e) (va_cpy c c (24 * s + i) (24 * o + j) e) = some (nI k, E2, va_cpy c c (24 * s + i) (24 * o + j) k) := by
  intro fuel
  induction fuel with
  | zero => intro q e _ h; exact absurd h (Nat.not_lt_zero _)
  | succ fuel ih =>
    intro q e hq hf
    rw [s_M_move_c28]
    cases q with
    | zero =>
      rw [if_pos (nI_le (by omega) (by omega)), show e = k by omega]
    | succ q =>
      rw [if_neg (nI_ge (by omega) (by omega)), if_pos (nI_le hd (by omega))]
      unfold s_M_move_c53
      rw [(p_ixS s i).2, (p_ixS o j).2, nI_add, nI_add, p_chk (by omega) (by omega), p_chk (by omega) (by omega), nI_clamp (by omega), nI_clamp (by omega), nI_1, cpyA (by
        rcases Nat.lt_trichotomy s o with z | z | z
        · omega
        · subst z; omega
        · omega)]
      exact ih q (e + 1) (by omega) (by omega)
theorem p_moveD {s o i j k : Nat} {E2 c : Nat → Int32} (hs : s < 4) (ho : o < 4) (hi : i + k ≤ 24) (hj : j + k ≤ 24) (hd : i < j) : ∀ (fuel q e : Nat), e + q = k → q < fuel → s_M_move_c28 (nI s) (nI i) (nI o) (nI j) (nI k) E2 fuel (nI e) (va_cpy c c (24 * s + i + (k - e)) (24 * o + j + (k - e)) e) = some (nI k, E2, va_cpy c c (24 * s + i) (24 * o + j) k) := by
  intro fuel
  induction fuel with
  | zero => intro q e _ h; exact absurd h (Nat.not_lt_zero _)
  | succ fuel ih =>
    intro q e hq hf
    rw [s_M_move_c28]
    cases q with
    | zero =>
      rw [if_pos (nI_le (by omega) (by omega)), show e = k by omega, Nat.sub_self, Nat.add_zero, Nat.add_zero]
    | succ q =>
      rw [if_neg (nI_ge (by omega) (by omega)), if_neg (nI_ge hd (by omega))]
      unfold s_M_move_c53
      have e1 : (nI k - (1 : Int32)) - nI e = nI q := by rw [show (1 : Int32) = nI 1 from rfl, pk_sub (by omega), pk_sub (by omega), show k - 1 - e = q by omega]
      have e2 : k - e = q + 1 := by omega
      rw [e1, (p_ixS s i).2, (p_ixS o j).2, nI_add, nI_add, p_chk (by omega) (by omega), p_chk (by omega) (by omega), nI_clamp (by omega), nI_clamp (by omega), nI_1, e2, ← Nat.add_assoc, ← Nat.add_assoc, cpyD (by
        rcases Nat.lt_trichotomy s o with z | z | z
        · omega
        · subst z; omega
        · omega)]
      have := ih q (e + 1) (by omega) (by omega)
      rw [show k - (e + 1) = q by omega] at this
      exact this
theorem q_move {bits ln num bM sM cM E E2 : Nat → Int32} (hS : RSh bits ln num bM sM cM) (hE : ErR E E2) (a b a' b' x : Int32) :
    ∃ r num' E' E2' cM', s_X_move a b a' b' x bits ln num E = some (r, num', E') ∧ s_M_move a b a' b' x E2 bM sM cM = some (r, E2', cM') ∧ ErR E' E2' ∧ RSh bits ln num' bM sM cM' := by
  obtain ⟨E1, F1, x1, x2, x3⟩ := p_err hE (k := 1) (by omega)
  obtain ⟨E3, F3, y1, y2, y3⟩ := p_err hE (k := 2) (by omega)
  obtain ⟨E5, F5, z1, z2, z3⟩ := p_err hE (k := 5) (by omega)
  have hS0 := hS
  obtain ⟨L, hS⟩ := hS
  have oX : s_X_move_c14 num E = some (eL 1, num, E1) := by
    unfold s_X_move_c14
    rw [show (1 : Int32) = nI 1 from rfl, x1, p_b2]
  have oX2 : s_X_move_c42 num E = some (eL 2, num, E3) := by
    unfold s_X_move_c42
    rw [show (2 : Int32) = nI 2 from rfl, y1, p_b2]
  have oX3 : s_X_move_c104 num E = some (eL 1, num, E1) := by
    unfold s_X_move_c104
    rw [show (1 : Int32) = nI 1 from rfl, x1, p_b2]
  have bad : s_M_notMoved_c101 = some (eL 1) := by
    unfold s_M_notMoved_c101 s_M_notMoved_c102
    rw [if_pos rfl, show (-1000000001 : Int32) = eL 1 from by decide]
  have oM : ∀ {k : Nat}, k < 7 → ∀ {E' : Nat → Int32}, s_M_error (eL k) E2 = some (eL k, E') → s_M_notMoved a b a' b' x bM sM = some (eL k) → s_M_move a b a' b' x E2 bM sM cM = some (eL k, E', cM) := by
    intro k hk E' e1 e2
    unfold s_M_move
    rw [e2, p_b1, if_neg (eL_ne k hk), e1, p_b2]
  unfold s_X_move
  rcases p_ix a 4 (by omega) with ho | ⟨s, hs, rfl⟩
  · refine ⟨eL 1, num, E1, F1, cM, ?_, oM (by omega) x2 ?_, x3, hS0⟩
    · rw [(p_shO ho).1, p_b1, if_pos rfl, oX]
    · unfold s_M_notMoved
      rw [(p_shO ho).2, p_b1, if_pos rfl, show (-1000000001 : Int32) = eL 1 from by decide]
  · rcases p_ix a' 4 (by omega) with ho | ⟨o, hoo, rfl⟩
    · refine ⟨eL 1, num, E1, F1, cM, ?_, oM (by omega) x2 ?_, x3, hS0⟩
      · rw [(p_shI hs).1, p_b1, if_neg (show ¬ (1 : Int32) = 0 by decide), (p_shO ho).1, p_b1, if_pos rfl, oX]
      · unfold s_M_notMoved
        rw [(p_shI hs).2, p_b1, if_neg (show ¬ (1 : Int32) = 0 by decide), (p_shO ho).2, p_b1, if_pos rfl, show (-1000000001 : Int32) = eL 1 from by decide]
    · obtain ⟨s1, s2, s3, s4, s5, s6⟩ := hS s hs
      obtain ⟨o1, o2, o3, o4, o5, o6⟩ := hS o hoo
      have mM : s_M_notMoved (nI s) b (nI o) b' x bM sM = (if bits s = 0 then some (eL 2) else if bits o = 0 then some (eL 2) else if bits s = bits o then (if x < 0 then some (eL 1) else if b < 0 then some (eL 1) else if b' < 0 then some (eL 1) else if nI (L s) - b < x then some (eL 1) else if nI (L o) - b' < x then some (eL 1) else some 0) else some (eL 5)) := by
        unfold s_M_notMoved
        rw [(p_shI hs).2, p_b1, if_neg (show ¬ (1 : Int32) = 0 by decide), (p_shI hoo).2, p_b1, if_neg (show ¬ (1 : Int32) = 0 by decide), bad]
        unfold s_M_notMoved_c102
        rw [p_chk hs (by omega), p_chk hoo (by omega), p_chk hs (by omega), p_chk hoo (by omega), p_chk hs (by omega), p_chk hoo (by omega), nI_clamp (by omega), nI_clamp (by omega), ← s1, ← o1, s4, o4, if_neg (show ¬ (1 : Int32) = 0 by decide), show (-1000000002 : Int32) = eL 2 from by decide, show (-1000000005 : Int32) = eL 5 from by decide]
      rw [(p_shI hs).1, p_b1, if_neg (show ¬ (1 : Int32) = 0 by decide), (p_shI hoo).1, p_b1, if_neg (show ¬ (1 : Int32) = 0 by decide), p_miss hs, p_b1, p_miss hoo, p_b1]
      by_cases c1 : bits s = 0
      · refine ⟨eL 2, num, E3, F3, cM, ?_, oM (by omega) y2 (by rw [mM, if_pos c1]), y3, hS0⟩
        rw [if_pos c1, if_neg (show ¬ (1 : Int32) = 0 by decide), oX2]
      · rw [if_neg c1] at mM ⊢
        rw [if_pos rfl]
        by_cases c2 : bits o = 0
        · refine ⟨eL 2, num, E3, F3, cM, ?_, oM (by omega) y2 (by rw [mM, if_pos c2]), y3, hS0⟩
          rw [if_pos c2, if_neg (show ¬ (1 : Int32) = 0 by decide), oX2]
        · rw [if_neg c2] at mM ⊢
          rw [if_pos rfl, p_chk hs (by omega), p_chk hoo (by omega), nI_clamp (by omega), nI_clamp (by omega)]
          by_cases c3 : bits s = bits o
          · rw [if_pos c3] at mM ⊢
            rcases p_st hs s3 s2 b x with ⟨i, k, rfl, rfl, hik, g1⟩ | ⟨g1, g2⟩
            · rw [g1, p_b1, if_neg (show ¬ (1 : Int32) = 0 by decide)]
              rcases p_st hoo o3 o2 b' (nI k) with ⟨j, k', rfl, ek, hjk, g3⟩ | ⟨g3, g4⟩
              · have ek' : k = k' := by
                  have h2 := hik; have h3 := hjk
                  rcases Nat.lt_or_ge k' (2 ^ 31) with z | z
                  · exact (nI_eq (by omega) z).mp ek
                  · omega
                subst ek'
                unfold s_Sheets_copyNumbers
                rw [g3, p_b1, if_neg (show ¬ (1 : Int32) = 0 by decide), g1, p_b1, if_neg (show ¬ (1 : Int32) = 0 by decide), p_b1, if_neg (show ¬ (1 : Int32) = 0 by decide), (p_ixS s i).1, (p_ixS o j).1, p_cp (by omega) (by omega) (by omega) (by omega) (by omega), nI_clamp (by omega), nI_clamp (by omega), nI_clamp (by omega), p_b1]
                have e0 : s_M_notMoved (nI s) (nI i) (nI o) (nI j) (nI k) bM sM = some 0 := by
                  rw [mM, if_neg (p_nlt0 (by omega)), if_neg (p_nlt0 (by omega)), if_neg (p_nlt0 (by omega)), pk_sub (by omega), pk_sub (by omega), if_neg (nI_nlt (by omega) (by omega)), if_neg (nI_nlt (by omega) (by omega))]
                refine ⟨nI k, _, E, E2, va_cpy cM cM (24 * s + i) (24 * o + j) k, rfl, ?_, hE, L, fun t ht => ?_⟩
                · unfold s_M_move
                  rw [e0, p_b1, if_pos rfl]
                  by_cases hd : j ≤ i
                  · have := p_moveA (E2 := E2) (c := cM) hs hoo (show i + k ≤ 24 by omega) (show j + k ≤ 24 by omega) hd 400 k 0 (by omega) (by omega)
                    rw [cpy0] at this
                    exact this
                  · have := p_moveD (E2 := E2) (c := cM) hs hoo (show i + k ≤ 24 by omega) (show j + k ≤ 24 by omega) (show i < j by omega) 400 k 0 (by omega) (by omega)
                    rw [cpy0] at this
                    exact this
                · obtain ⟨t1, t2, t3, t4, t5, t6⟩ := hS t ht
                  refine ⟨t1, t2, t3, t4, t5, fun u hu => ?_⟩
                  by_cases r : 24 * o + j ≤ 24 * t + u ∧ 24 * t + u < 24 * o + j + k
                  · rw [pk_cpy_in r.1 r.2, pk_cpy_in r.1 r.2, show 24 * s + i + (24 * t + u - (24 * o + j)) = 24 * s + (i + (24 * t + u - (24 * o + j))) by omega]
                    exact s6 _ (by omega)
                  · rw [pk_cpy_out (by omega), pk_cpy_out (by omega)]
                    exact t6 u hu
              · refine ⟨eL 1, num, E1, F1, cM, ?_, oM (by omega) x2 ?_, x3, hS0⟩
                · rw [g3, p_b1, if_pos rfl, oX3]
                · rw [mM]
                  rcases g4 with q | q | q
                  · rw [if_pos q]
                  · rw [if_pos q, ite_self, ite_self]
                  · rw [if_pos q, ite_self, ite_self, ite_self, ite_self]
            · refine ⟨eL 1, num, E1, F1, cM, ?_, oM (by omega) x2 ?_, x3, hS0⟩
              · rw [g1, p_b1, if_pos rfl, oX3]
              · rw [mM]
                rcases g2 with q | q | q
                · rw [if_pos q]
                · rw [if_pos q, ite_self]
                · rw [if_pos q, ite_self, ite_self, ite_self]
          · rw [if_neg c3] at mM ⊢
            exact ⟨eL 5, num, E5, F5, cM, by rw [show (5 : Int32) = nI 5 from rfl, z1, p_b2], oM (by omega) z2 mM, z3, hS0⟩
theorem p_wallsL {n s l : Nat} {K M C : Nat → Nat} {kind m cell ln num sM cM E E2 : Nat → Int32} {count : Int32} {taken : Int64} (hs : s < 4) (hl : ln s = nI l) (hl2 : sM s = nI l) (h24 : l ≤ 24) (hnum : ∀ k, k < l → num (24 * s + k) = cM (24 * s + k)) : ∀ (fuel fuel' q i : Nat) (walls : Int64) (R : Nat → Int32), i + q = l → q < fuel → q < fuel' → ThR n K M C kind m cell count taken walls R → ∃ r walls' R', s_X_walls_c42 (nI s) (nI l) cell count ln num E fuel (nI i) walls = some (r, walls', E) ∧ s_M_walls_c18 (nI s) E2 sM cM fuel' (nI i) R = some (r, R', E2) ∧ ThR n K M C kind m cell count taken walls' R' ∧ (∀ c, 36 ≤ c → c < 64 → bL walls' c = bL walls c) ∧ (∀ j, (j < 5 ∨ 41 ≤ j) → R' j = R j) := by
  intro fuel
  induction fuel with
  | zero => intro fuel' q i walls R _ h; exact absurd h (Nat.not_lt_zero _)
  | succ fuel ih =>
    intro fuel' q i walls R hq hf hf' h
    cases fuel' with
    | zero => exact absurd hf' (Nat.not_lt_zero _)
    | succ fuel' =>
    rw [s_X_walls_c42, s_M_walls_c18, p_chk hs (by omega), nI_clamp (by omega), hl2]
    cases q with
    | zero =>
      rw [if_pos (nI_le (by omega) (by omega)), if_pos (nI_le (by omega) (by omega)), show i = l by omega]
      exact ⟨_, _, _, rfl, rfl, h, fun _ _ _ => rfl, fun _ _ => rfl⟩
    | succ q =>
      obtain ⟨hn, h1, h2, -⟩ := id h
      rw [if_neg (nI_ge (by omega) (by omega)), if_neg (nI_ge (by omega) (by omega)), (p_ixS s i).2, p_chk (by omega) (by omega), nI_clamp (by omega), p_numAt hs hl h24 (by omega), p_b1, hnum i (by omega), (p_cI (show i < 36 by omega)).1, p_b1, if_neg (show ¬ (1 : Int32) = 0 by decide), p_min _ _ hn h2, p_fdEq h, p_b1]
      unfold s_M_walls_c53 s_X_walls_c80 s_X_walls_c76 s_X_walls_c81 s_X_walls_c110
      rw [if_pos (show (0 : Int32) = 0 from rfl), if_neg (show ¬ (1 : Int32) = 0 by decide), h1, p_tin _ _ hn, p_b1, (p_ixS s i).2, p_chk (by omega) (by omega), show (5 : Int32) + nI i = nI (5 + i) from nI_add 5 i, p_chk (by omega) (by omega), nI_clamp (by omega), nI_clamp (by omega), nI_1]
      have go : ∀ w, w < 2 → cM (24 * s + i) = nI w → (w = 1 → ∀ t, t < n → C t ≠ i) → ∃ r walls' R', (j_b1 (s_House_setWall (nI i) (nI w) walls) (fun u5_walls => s_X_walls_c42 (nI s) (nI l) cell (nI n) ln num E fuel (nI (i + 1)) u5_walls)) = some (r, walls', E) ∧ s_M_walls_c18 (nI s) E2 sM cM fuel' (nI (i + 1)) (upd R (5 + i) (cM (24 * s + i))) = some (r, R', E2) ∧ ThR n K M C kind m cell (nI n) taken walls' R' ∧ (∀ c, 36 ≤ c → c < 64 → bL walls' c = bL walls c) ∧ (∀ j, (j < 5 ∨ 41 ≤ j) → R' j = R j) := by
        intro w hw ew hfr
        obtain ⟨walls1, w1, w2⟩ := p_setWall (walls := walls) (show i < 36 by omega) hw
        have h3 := ThR_wall h (walls' := walls1) (w := decide (w = 1)) (show i < 36 by omega) w2 (fun z => hfr (by simpa using z))
        have e3 : (if decide (w = 1) = true then (1 : Int32) else 0) = nI w := by
          rcases (show w = 0 ∨ w = 1 by omega) with e | e <;> subst e <;> rfl
        rw [e3] at h3
        rw [w1, p_b1, ew]
        obtain ⟨r, walls', R', g1, g2, g3, g4, g5⟩ := ih fuel' q (i + 1) walls1 (upd R (5 + i) (nI w)) (by omega) (by omega) (by omega) h3
        rw [h1] at g1 g3
        refine ⟨r, walls', R', g1, g2, g3, fun c hc1 hc2 => ?_, fun j hj => ?_⟩
        · rw [g4 c hc1 hc2, w2 c hc2, if_neg (by omega)]
        · rw [g5 j hj, pk_un (by omega)]
      rcases p_ix (cM (24 * s + i)) 2 (by omega) with ho | ⟨w, hw, ew⟩
      · have n0 : ¬ cM (24 * s + i) = 0 := by
          intro z
          rw [z] at ho
          exact absurd ho (by decide)
        have n1 : ¬ cM (24 * s + i) = 1 := by
          intro z
          rw [z] at ho
          exact absurd ho (by decide)
        have i1 : s_M_in (cM (24 * s + i)) 0 1 = some 0 := p_inO (N := 1) (by omega) ho
        have i0 : s_M_in (cM (24 * s + i)) 0 0 = some 0 := p_inO (N := 0) (by omega) (by
          rcases ho with ho | ho
          · exact Or.inl ho
          · right
            rw [Int32.le_iff_toInt_le, p_ti 2 (by omega)] at ho
            rw [Int32.le_iff_toInt_le, p_ti (0 + 1) (by omega)]
            omega)
        rw [if_neg n0, if_neg n1, i1, i0, p_b1, if_pos (show (0 : Int32) = 0 from rfl), ite_self]
        exact ⟨_, _, _, rfl, rfl, h1 ▸ h, fun _ _ _ => rfl, fun _ _ => rfl⟩
      · rcases (show w = 0 ∨ w = 1 by omega) with e | e
        · subst e
          have i1 : s_M_in (cM (24 * s + i)) 0 1 = some 1 := by rw [ew]; exact p_inI (N := 1) (by omega) (by omega)
          have i0 : s_M_in (cM (24 * s + i)) 0 0 = some 1 := by rw [ew]; exact p_inI (N := 0) (by omega) (by omega)
          obtain ⟨r, walls', R', g1, g2, g3⟩ := go 0 (by omega) ew (fun z => absurd z (by omega))
          rw [i1, i0, p_b1, if_neg (show ¬ (1 : Int32) = 0 by decide), ite_self, if_pos (show cM (24 * s + i) = 0 from ew), if_neg (show ¬ cM (24 * s + i) = 1 from fun z => by rw [ew] at z; exact absurd z (by decide)), show cM (24 * s + i) = nI 0 from ew]
          rw [ew] at g2
          exact ⟨r, walls', R', g1, g2, g3⟩
        · subst e
          have i1 : s_M_in (cM (24 * s + i)) 0 1 = some 1 := by rw [ew]; exact p_inI (N := 1) (by omega) (by omega)
          have i0 : s_M_in (cM (24 * s + i)) 0 0 = some 0 := by rw [ew]; exact p_inO (N := 0) (by omega) (Or.inr (by decide))
          rw [i1, i0, p_b1, p_b1, if_pos (show (0 : Int32) = 0 from rfl), if_neg (show ¬ (1 : Int32) = 0 by decide), if_neg (show ¬ cM (24 * s + i) = 0 from fun z => by rw [ew] at z; exact absurd z (by decide)), if_pos (show cM (24 * s + i) = 1 from ew), if_pos (show cM (24 * s + i) = 1 from ew)]
          rcases p_fdC h (show i < 36 by omega) with ⟨f1, f2⟩ | ⟨t, f1, f2, f3⟩
          · rw [f1, if_pos (show (-1 : Int32) < 0 by decide), if_neg (show ¬ (0 : Int32) ≤ -1 by decide), show cM (24 * s + i) = nI 1 from ew]
            obtain ⟨r, walls', R', g1, g2, g3⟩ := go 1 (by omega) ew (fun _ => f2)
            rw [ew] at g2
            exact ⟨r, walls', R', g1, g2, g3⟩
          · rw [f3, if_neg (p_nlt0 (by omega)), if_pos (nI_pos' (by omega))]
            exact ⟨_, _, _, rfl, rfl, h1 ▸ h, fun _ _ _ => rfl, fun _ _ => rfl⟩
theorem q_walls {kind m cell broken fell : Nat → Int32} {count : Int32} {taken walls : Int64} {bits ln num bM sM cM R E E2 : Nat → Int32} (hT : RTh kind m cell broken fell count taken walls R) (hS : RSh bits ln num bM sM cM) (hE : ErR E E2) (a : Int32) :
    ∃ r walls' E' R' E2', s_X_walls a cell count walls bits ln num E = some (r, walls', E') ∧ s_M_walls a R E2 bM sM cM = some (r, R', E2') ∧ RTh kind m cell broken fell count taken walls' R' ∧ ErR E' E2' ∧ frT R R' := by
  obtain ⟨n, K, M, C, h, hb, hf, hu⟩ := id hT
  obtain ⟨L, hS⟩ := hS
  obtain ⟨E1, F1, x1, x2, x3⟩ := p_err hE (k := 1) (by omega)
  obtain ⟨E3, F3, y1, y2, y3⟩ := p_err hE (k := 2) (by omega)
  have hn := h.1
  unfold s_X_walls s_M_walls
  rcases p_ix a 4 (by omega) with ho | ⟨s, hs, rfl⟩
  · refine ⟨eL 1, walls, E1, R, F1, ?_, ?_, hT, x3, frT_rf⟩
    · rw [(p_shO ho).1, p_b1, if_pos rfl, show (1 : Int32) = nI 1 from rfl, x1, p_b2]
    · rw [p_nthO ho, p_b1, if_neg (eL_ne 1 (by omega)), x2, p_b2]
  · obtain ⟨s1, s2, s3, s4, s5, s6⟩ := hS s hs
    rw [(p_shI hs).1, p_b1, if_neg (show ¬ (1 : Int32) = 0 by decide), p_miss hs, p_b1, p_nthI hs, p_b1, ← s1]
    by_cases hb0 : bits s = 0
    · refine ⟨eL 2, walls, E3, R, F3, ?_, ?_, hT, y3, frT_rf⟩
      · rw [if_pos hb0, if_neg (show ¬ (1 : Int32) = 0 by decide), show (2 : Int32) = nI 2 from rfl, y1, p_b2]
      · rw [if_pos hb0, if_neg (eL_ne 2 (by omega)), y2, p_b2]
    · rw [if_neg hb0, if_neg hb0, if_pos rfl, if_pos rfl, p_chk hs (by omega), nI_clamp (by omega), s3]
      obtain ⟨r, walls', R', g1, g2, g3, g4, g5⟩ := p_wallsL (E := E) (E2 := E2) hs s3 s4 s2 s6 400 400 (L s) 0 walls R (by omega) (by omega) (by omega) h
      refine ⟨r, walls', E, R', E2, g1, g2, ⟨n, K, M, C, g3, fun u hu1 => ?_, fun u hu1 => ?_, fun c hc1 hc2 => ?_⟩, hE, fun j hj => g5 j (by omega)⟩
      · rw [g5 _ (by omega)]; exact hb u hu1
      · rw [g5 _ (by omega)]; exact hf u hu1
      · rw [g4 c hc1 hc2]; exact hu c hc1 hc2
