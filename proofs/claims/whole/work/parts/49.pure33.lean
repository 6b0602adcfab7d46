/-! pure 35: texts: the factor; both readers alike -/
section
variable {L u : Nat} {bytes R : Nat → Int32}
theorem t_factor (h : TpC L bytes R) (hu : u < 2) : ∀ (q op d e : Nat), op + q = 5 → GP L op (fun st c f a => s_TextReader_readFactor (d + 11 * q + 1) (nI op) st c f bytes (nI L) a (nI u)) (fun ac wi l h o b => s_M_one (e + 7 * q + 2) R ac wi l h o b (nI u)) := by
  have hL := h.1
  intro q
  induction q with
  | zero =>
    intro op d e hop p s D st ac wi hp hs hw
    dsimp only
    rw [s_TextReader_readFactor_succ, s_M_one_succ]
    unfold so_TextReader_readFactor so_M_one s_M_one_c46
    rw [t_sgX h (by omega), t_sgM h (by omega), p_b1, p_b1]
    -- one that can't go on
    have bad : ∀ l', l' ≤ 60 → ∀ (ac' wi' : Nat → Int32), PR L op (p + 1) p s D (some (st, nI s, nI p, nI p)) (some (ac', wi', nI l', nI p, nI op, 1)) := fun l' hl ac' wi' => ⟨st, ac', wi', p, s, Nat.le_refl _, hp, by omega, Or.inr ⟨l', hl, rfl, rfl⟩⟩
    have rf : s_TextReader_refuse (-1) (nI p) = some (nI p) := by
      unfold s_TextReader_refuse
      rw [if_neg (show ¬ (0 : Int32) ≤ -1 by decide)]
    have c91 : ∀ x, s_TextReader_readFactor_c92 (s_TextReader_readRank d) (nI op) x st (nI s) (-1) bytes (nI L) (nI p) (nI u) = some (st, nI s, nI p, nI p) := by
      intro x
      unfold s_TextReader_readFactor_c92
      rw [rf, p_b1, if_pos (show (5 : Int32) ≤ nI op from nI_le (a := 5) (by omega) (by omega)), ite_self]
    have opn : ∀ x, s_M_opens (e + 1) x R ac wi (nI s) (nI p) (nI op) 0 (nI u) = some (ac, wi, nI s, nI p, nI op, 1) := by
      intro x
      rw [s_M_opens_succ]
      unfold so_M_opens
      rw [if_pos (show nI op = 5 from by rw [show op = 5 by omega]; rfl)]
    have num0 : s_TextReader_isDigit (sg L R p) = some 0 → ∃ ac' wi' l', l' ≤ 60 ∧ s_M_number R ac wi (nI s) (nI p) 0 = some (ac', wi', nI l', nI p, 1) := by
      intro z
      obtain ⟨ac', wi', l', z1, z2⟩ := t_stepF (x := 1) (y := 0) (ac := ac) (wi := wi) (show s ≤ 60 by omega)
      refine ⟨ac', wi', l', z1, ?_⟩
      unfold s_M_number
      rw [s_M_number_c4, if_neg (show ¬ (4 : Int32) ≤ 0 by decide), t_sgM h (by omega), p_b1, t_dig, z, p_b1, if_pos rfl]
      unfold s_M_number_c52 s_M_number_c62
      rw [if_pos rfl, p_bz (Or.inr rfl), z2, p_b3]
    have digit : s_TextReader_isDigit (sg L R p) = some 1 → PR L op (p + 1) p s D (j_b3 (s_TextReader_readNumber st (nI s) bytes (nI L) (nI p)) (fun u21_steps u22_stepCount u23_at => some (u21_steps, u22_stepCount, (-1 : Int32), u23_at))) (j_b5 (s_M_number R ac wi (nI s) (nI p) 0) (fun u9_act u10_with u11_laid u12_here u13_bad => some (u9_act, u10_with, u11_laid, u12_here, nI op, u13_bad))) := by
      intro z
      obtain ⟨v', p', i', g1, g2, g3, g4, g5, g6, g7, g8⟩ := t_num h (st := st) (ac := ac) (wi := wi) (cn := nI s) (la := nI s) 400 400 4 0 0 p (by omega) (by omega) (by omega) (by decide) hp
      have hi := g8 rfl z
      unfold s_TextReader_readNumber s_M_number
      rw [show s_TextReader_readNumber_c4 st (nI s) bytes (nI L) 400 (0 : Int32) (0 : Int32) (nI p) = _ from g6, show s_M_number_c4 R ac wi (nI s) 400 (0 : Int32) (0 : Int32) (nI p) = _ from g7]
      unfold s_TextReader_readNumber_c48 s_M_number_c52 s_M_number_c62
      rw [if_neg (show ¬ nI i' = 0 from fun y => by have := (nI_eq (by omega) (by omega)).mp (y.trans (show (0 : Int32) = nI 0 from rfl)); omega), p_bz (Or.inl rfl), t_emitI (by omega), t_stepI (by omega), p_b2, p_b3, p_b3, p_b5]
      refine ⟨_, _, _, p', s + 1, g2, g3, by omega, Or.inl ⟨rfl, rfl, by omega, by omega, Wf_new hw (Or.inl ⟨pk_us, ⟨v', g1, pk_us, pk_us⟩, rfl⟩)⟩⟩
    rcases t_sgb h p with ⟨e1, e2⟩ | ⟨b, b1, b2, b3⟩
    · obtain ⟨n1, n2⟩ := t_nm1 u hu
      obtain ⟨ac', wi', l', z1, z2⟩ := num0 (by rw [e1]; exact t_dig1)
      rw [e1, t_dig1, p_b1, if_pos rfl, n1, n2, p_b1, if_pos (show (-1 : Int32) < 0 by decide), p_b1, if_pos (show (-1 : Int32) < 0 by decide), if_neg (show ¬ (-1 : Int32) = 33 by decide), if_neg (show ¬ (-1 : Int32) = 33 by decide), if_neg (show ¬ (-1 : Int32) = 40 by decide), c91, z2, p_b5]
      exact bad l' z1 ac' wi'
    · have hd := t_digN b b1
      have hX := t_nmX u hu b b1
      have hM := t_nmM u hu b b1
      have hn0 := t_nm0 u hu b b1
      rw [b2] at digit num0 ⊢
      rw [hd] at digit num0 ⊢
      rw [hX, hM]
      by_cases c1 : 48 ≤ b ∧ b ≤ 57
      · rw [if_pos c1] at digit ⊢
        rw [if_neg (hn0 (Or.inl c1)), p_b1, if_neg (show ¬ (1 : Int32) = 0 by decide), p_b1, if_pos (show (-1 : Int32) < 0 by decide), if_neg (show ¬ nI b = 33 from fun y => by have := (nI_eq (a := b) (b := 33) (by omega) (by omega)).mp y; omega), if_neg (show ¬ nI b = 40 from fun y => by have := (nI_eq (a := b) (b := 40) (by omega) (by omega)).mp y; omega)]
        exact digit rfl
      · rw [if_neg c1] at num0 ⊢
        rw [p_b1, if_pos rfl]
        by_cases c2 : nm u b < 3
        · rw [if_pos c2, p_b1, p_b1, p_b1, if_neg (p_nlt0 (by omega)), if_neg (p_nlt0 (by omega)), show (10000 : Int32) + nI (nm u b) = nI (10000 + nm u b) from nI_add 10000 _, t_emitI (by omega), t_stepI (by omega), p_b2, p_b3, nI_1]
          refine ⟨_, _, _, p + 1, s + 1, by omega, by omega, by omega, Or.inl ⟨rfl, rfl, Nat.le_refl _, by omega, Wf_new hw (Or.inr (Or.inl ⟨pk_us, ⟨nm u b, c2, pk_us, pk_us⟩, rfl⟩))⟩⟩
        · rw [if_neg c2, p_b1, if_pos (show (-1 : Int32) < 0 by decide), p_b1, if_pos (show (-1 : Int32) < 0 by decide), c91, if_pos (show (5 : Int32) ≤ nI op from nI_le (a := 5) (by omega) (by omega)), ite_self]
          by_cases c3 : nI b = 33
          · rw [if_pos c3, opn, p_b6]
            exact bad s (by omega) ac wi
          · rw [if_neg c3]
            by_cases c4 : nI b = 40
            · rw [if_pos c4, opn, p_b6]
              exact bad s (by omega) ac wi
            · obtain ⟨ac', wi', l', z1, z2⟩ := num0 rfl
              rw [if_neg c4, z2, p_b5]
              exact bad l' z1 ac' wi'
  | succ q ih =>
    intro op d e hop p s D st ac wi hp hs hw
    dsimp only
    rw [s_TextReader_readFactor_succ, s_M_one_succ]
    unfold so_TextReader_readFactor so_M_one s_M_one_c46
    rw [t_sgX h (by omega), t_sgM h (by omega), p_b1, p_b1]
    have bad : ∀ l', l' ≤ 60 → ∀ (ac' wi' : Nat → Int32), PR L op (p + 1) p s D (some (st, nI s, nI p, nI p)) (some (ac', wi', nI l', nI p, nI op, 1)) := fun l' hl ac' wi' => ⟨st, ac', wi', p, s, Nat.le_refl _, hp, by omega, Or.inr ⟨l', hl, rfl, rfl⟩⟩
    have rf : ∀ p, s_TextReader_refuse (-1) (nI p) = some (nI p) := by
      intro p
      unfold s_TextReader_refuse
      rw [if_neg (show ¬ (0 : Int32) ≤ -1 by decide)]
    have num0 : s_TextReader_isDigit (sg L R p) = some 0 → ∃ ac' wi' l', l' ≤ 60 ∧ s_M_number R ac wi (nI s) (nI p) 0 = some (ac', wi', nI l', nI p, 1) := by
      intro z
      obtain ⟨ac', wi', l', z1, z2⟩ := t_stepF (x := 1) (y := 0) (ac := ac) (wi := wi) (show s ≤ 60 by omega)
      refine ⟨ac', wi', l', z1, ?_⟩
      unfold s_M_number
      rw [s_M_number_c4, if_neg (show ¬ (4 : Int32) ≤ 0 by decide), t_sgM h (by omega), p_b1, t_dig, z, p_b1, if_pos rfl]
      unfold s_M_number_c52 s_M_number_c62
      rw [if_pos rfl, p_bz (Or.inr rfl), z2, p_b3]
    have digit : s_TextReader_isDigit (sg L R p) = some 1 → PR L op (p + 1) p s D (j_b3 (s_TextReader_readNumber st (nI s) bytes (nI L) (nI p)) (fun u21_steps u22_stepCount u23_at => some (u21_steps, u22_stepCount, (-1 : Int32), u23_at))) (j_b5 (s_M_number R ac wi (nI s) (nI p) 0) (fun u9_act u10_with u11_laid u12_here u13_bad => some (u9_act, u10_with, u11_laid, u12_here, nI op, u13_bad))) := by
      intro z
      obtain ⟨v', p', i', g1, g2, g3, g4, g5, g6, g7, g8⟩ := t_num h (st := st) (ac := ac) (wi := wi) (cn := nI s) (la := nI s) 400 400 4 0 0 p (by omega) (by omega) (by omega) (by decide) hp
      have hi := g8 rfl z
      unfold s_TextReader_readNumber s_M_number
      rw [show s_TextReader_readNumber_c4 st (nI s) bytes (nI L) 400 (0 : Int32) (0 : Int32) (nI p) = _ from g6, show s_M_number_c4 R ac wi (nI s) 400 (0 : Int32) (0 : Int32) (nI p) = _ from g7]
      unfold s_TextReader_readNumber_c48 s_M_number_c52 s_M_number_c62
      rw [if_neg (show ¬ nI i' = 0 from fun y => by have := (nI_eq (by omega) (by omega)).mp (y.trans (show (0 : Int32) = nI 0 from rfl)); omega), p_bz (Or.inl rfl), t_emitI (by omega), t_stepI (by omega), p_b2, p_b3, p_b3, p_b5]
      refine ⟨_, _, _, p', s + 1, g2, g3, by omega, Or.inl ⟨rfl, rfl, by omega, by omega, Wf_new hw (Or.inl ⟨pk_us, ⟨v', g1, pk_us, pk_us⟩, rfl⟩)⟩⟩
    have hop5 : ¬ (5 : Int32) ≤ nI op := nI_ge (b := 5) (by omega) (by omega)
    have hop5' : ¬ nI op = 5 := fun z => by have := (nI_eq (a := op) (b := 5) (by omega) (by omega)).mp z; omega
    have ih0 := t_part4 (ih (op + 1) (d + 9) (e + 5) (by omega))
    rw [show d + 9 + 11 * q + 1 + 1 = d + 11 * (q + 1) by omega, show e + 5 + 7 * q + 2 = e + 7 * (q + 1) by omega] at ih0
    have ihT := t_full h (ih (op + 1) d e (by omega))
    rw [show d + 11 * q + 1 + 10 = d + 11 * (q + 1) by omega, show e + 7 * q + 2 + 5 = e + 7 * (q + 1) by omega] at ihT
    rcases t_sgb h p with ⟨e1, e2⟩ | ⟨b, b1, b2, b3⟩
    · obtain ⟨n1, n2⟩ := t_nm1 u hu
      obtain ⟨ac', wi', l', z1, z2⟩ := num0 (by rw [e1]; exact t_dig1)
      rw [e1, t_dig1, p_b1, if_pos rfl, n1, n2, p_b1, if_pos (show (-1 : Int32) < 0 by decide), p_b1, if_pos (show (-1 : Int32) < 0 by decide), if_neg (show ¬ (-1 : Int32) = 33 by decide), if_neg (show ¬ (-1 : Int32) = 33 by decide), if_neg (show ¬ (-1 : Int32) = 40 by decide), z2, p_b5]
      unfold s_TextReader_readFactor_c92
      rw [if_neg (show ¬ (-1 : Int32) = 40 by decide), rf, p_b1]
      exact bad l' z1 ac' wi'
    · have hd := t_digN b b1
      have hX := t_nmX u hu b b1
      have hM := t_nmM u hu b b1
      have hn0 := t_nm0 u hu b b1
      rw [b2] at digit num0 ⊢
      rw [hd] at digit num0 ⊢
      rw [hX, hM]
      by_cases c1 : 48 ≤ b ∧ b ≤ 57
      · rw [if_pos c1] at digit ⊢
        rw [if_neg (hn0 (Or.inl c1)), p_b1, if_neg (show ¬ (1 : Int32) = 0 by decide), p_b1, if_pos (show (-1 : Int32) < 0 by decide), if_neg (show ¬ nI b = 33 from fun y => by have := (nI_eq (a := b) (b := 33) (by omega) (by omega)).mp y; omega), if_neg (show ¬ nI b = 40 from fun y => by have := (nI_eq (a := b) (b := 40) (by omega) (by omega)).mp y; omega)]
        exact digit rfl
      · rw [if_neg c1] at num0 ⊢
        rw [p_b1, if_pos rfl]
        by_cases c2 : nm u b < 3
        · rw [if_pos c2, p_b1, p_b1, p_b1, if_neg (p_nlt0 (by omega)), if_neg (p_nlt0 (by omega)), show (10000 : Int32) + nI (nm u b) = nI (10000 + nm u b) from nI_add 10000 _, t_emitI (by omega), t_stepI (by omega), p_b2, p_b3, nI_1]
          refine ⟨_, _, _, p + 1, s + 1, by omega, by omega, by omega, Or.inl ⟨rfl, rfl, Nat.le_refl _, by omega, Wf_new hw (Or.inr (Or.inl ⟨pk_us, ⟨nm u b, c2, pk_us, pk_us⟩, rfl⟩))⟩⟩
        · rw [if_neg c2, p_b1, if_pos (show (-1 : Int32) < 0 by decide), p_b1, if_pos (show (-1 : Int32) < 0 by decide), if_neg hop5]
          by_cases c3 : nI b = 33
          · rw [if_pos c3, if_pos c3, c3, s_M_opens_succ]
            unfold so_M_opens s_M_opens_c103
            rw [if_neg hop5', if_pos rfl, nI_1, nI_1, t_mid]
            obtain ⟨st1, ac1, wi1, p1, s1, q1, q2, q3, q4⟩ := ih0 (p + 1) s D st ac wi (by omega) (by omega) hw
            have eo : nI (op + 1) - (1 : Int32) = nI op := by rw [show (1 : Int32) = nI 1 from rfl, pk_sub (by omega), Nat.add_sub_cancel]
            rcases q4 with ⟨y1, y2, y3, y4, y5⟩ | ⟨l1, y0, y1, y2⟩
            · rw [show s_TextReader_readPart (d + 11 * (q + 1)) (4 : Int32) (nI (op + 1)) st (nI s) (-1) bytes (nI L) (nI (p + 1)) (nI u) = _ from y1, show s_M_one (e + 7 * (q + 1)) R ac wi (nI s) (nI (p + 1)) (nI (op + 1)) 0 (nI u) = _ from y2, p_b4, p_b6, t_emitI (by omega), t_stepI (by omega), p_b2, p_b3, eo]
              refine ⟨_, _, _, p1, s1 + 1, by omega, q2, by omega, Or.inl ⟨rfl, rfl, by omega, by omega, Wf_new y5 (Or.inr (Or.inr (Or.inl ⟨pk_us, pk_us, by omega, rfl⟩)))⟩⟩
            · obtain ⟨st2, s2, z1, z2⟩ := t_emitF (x := (20033 : Int32)) (st := st1) q3
              obtain ⟨ac2, wi2, l2, z3, z4⟩ := t_stepF (x := (3 : Int32)) (y := 0) (ac := ac1) (wi := wi1) y0
              rw [show s_TextReader_readPart (d + 11 * (q + 1)) (4 : Int32) (nI (op + 1)) st (nI s) (-1) bytes (nI L) (nI (p + 1)) (nI u) = _ from y1, show s_M_one (e + 7 * (q + 1)) R ac wi (nI s) (nI (p + 1)) (nI (op + 1)) 0 (nI u) = _ from y2, p_b4, p_b6, z2, z4, p_b2, p_b3, eo]
              exact ⟨st2, ac2, wi2, p1, s2, by omega, q2, z1, Or.inr ⟨l2, z3, rfl, rfl⟩⟩
          · rw [if_neg c3, if_neg c3]
            unfold s_TextReader_readFactor_c92
            by_cases c4 : nI b = 40
            · rw [if_pos c4, if_pos c4, if_neg hop5, c4, s_M_opens_succ]
              unfold so_M_opens s_M_opens_c74 s_M_opens_c79 s_M_opens_c99 s_M_opens_c103
              rw [if_neg hop5', if_neg (show ¬ (40 : Int32) = 33 by decide), nI_1, nI_1, t_mid]
              obtain ⟨st1, ac1, wi1, p1, s1, q1, q2, q3, q4⟩ := ihT (p + 1) s D st ac wi (by omega) (by omega) hw
              have eo : nI (op + 1) - (1 : Int32) = nI op := by rw [show (1 : Int32) = nI 1 from rfl, pk_sub (by omega), Nat.add_sub_cancel]
              have e0 : nI p1 + (0 : Int32) = nI p1 := Int32.add_zero _
              rcases q4 with ⟨y1, y2, y3, y4, y5⟩ | ⟨l1, y0, y1, y2⟩
              · rw [show s_TextReader_readRank (d + 11 * (q + 1)) (0 : Int32) (nI (op + 1)) st (nI s) (-1) bytes (nI L) (nI (p + 1)) (nI u) = _ from y1, show s_M_any (e + 7 * (q + 1)) R ac wi (nI s) (nI (p + 1)) (nI (op + 1)) 0 (nI u) = _ from y2, p_b4, p_b6, if_pos rfl, t_sgM h (by omega), p_b1]
                unfold s_TextReader_readClosing
                rw [if_neg (show ¬ (0 : Int32) ≤ -1 by decide), t_sgX h (by omega), p_b1, p_bz (Or.inl rfl), p_bz (Or.inr rfl), if_pos (show (0 : Int32) = 0 from rfl), if_neg (show ¬ (1 : Int32) = 0 by decide), eo, e0, nI_1, rf, p_b1]
                by_cases c5 : sg L R p1 = 41
                · have hp1 : p1 < L := by
                    rcases t_sgb h p1 with ⟨z1, -⟩ | ⟨-, -, -, z⟩
                    · rw [z1] at c5; exact absurd c5 (by decide)
                    · exact z
                  rw [if_pos c5, if_pos c5, p_b2]
                  exact ⟨st1, ac1, wi1, p1 + 1, s1, by omega, hp1, q3, Or.inl ⟨rfl, rfl, by omega, by omega, y5⟩⟩
                · rw [if_neg c5, if_neg c5, p_b2]
                  exact ⟨st1, ac1, wi1, p1, s1, by omega, q2, q3, Or.inr ⟨s1, q3, rfl, rfl⟩⟩
              · rw [show s_TextReader_readRank (d + 11 * (q + 1)) (0 : Int32) (nI (op + 1)) st (nI s) (-1) bytes (nI L) (nI (p + 1)) (nI u) = _ from y1, show s_M_any (e + 7 * (q + 1)) R ac wi (nI s) (nI (p + 1)) (nI (op + 1)) 0 (nI u) = _ from y2, p_b4, p_b6, if_neg (show ¬ (1 : Int32) = 0 by decide)]
                unfold s_TextReader_readClosing s_TextReader_refuse
                rw [if_pos (show (0 : Int32) ≤ nI p1 from nI_pos' (by omega)), if_pos (show (0 : Int32) ≤ nI p1 from nI_pos' (by omega)), p_b1, p_b2, p_bz (Or.inr rfl), if_neg (show ¬ (1 : Int32) = 0 by decide), eo, e0]
                exact ⟨st1, ac1, wi1, p1, s1, by omega, q2, q3, Or.inr ⟨l1, y0, rfl, rfl⟩⟩
            · obtain ⟨ac', wi', l', z1, z2⟩ := num0 rfl
              rw [if_neg c4, if_neg c4, z2, p_b5, rf, p_b1]
              exact bad l' z1 ac' wi'
theorem t_both (h : TpC L bytes R) (hu : u < 2) (st ac wi : Nat → Int32) : PR L 0 1 0 0 0 (s_TextReader_readRank 80 (nI 0) (nI 0) st (nI 0) (-1) bytes (nI L) (nI 0) (nI u)) (s_M_any 60 R ac wi (nI 0) (nI 0) (nI 0) 0 (nI u)) :=
  t_full (d := 70) (e := 55) h (t_factor h hu 5 0 14 18 rfl) 0 0 0 st ac wi (Nat.zero_le _) (Nat.le_refl _) rfl
end
