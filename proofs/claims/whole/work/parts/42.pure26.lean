/-! pure 28: parts; voice, body -/
def VP (X : Option (Int32 × Int32 × Int32 × (Nat → Int32))) (Y : Option (Int32 × (Nat → Int32) × Int32 × Int32)) : Prop := ∃ r r2 p j f f2, X = some (r, p, nI j, f) ∧ Y = some (r2, f2, nI j, p) ∧ TrS j f f2 ∧ ((p = 0 ∧ r = r2) ∨ p = 1)
theorem VP_m {X : Option (Int32 × Int32 × Int32 × (Nat → Int32))} {Y : Option (Int32 × (Nat → Int32) × Int32 × Int32)} (h : VP X Y) : VP X (j_b4 Y (fun r f j p => some (r, f, j, p))) := by
  obtain ⟨r, r2, p, j, f, f2, e1, e2, e3⟩ := h
  rw [e1, e2]
  exact ⟨r, r2, p, j, f, f2, rfl, rfl, e3⟩
theorem VP_begin {b j : Nat} {f f2 : Nat → Int32} {X : Int32 → (Nat → Int32) → Option (Int32 × Int32 × Int32 × (Nat → Int32))} {Y : (Nat → Int32) → Int32 → Option (Int32 × (Nat → Int32) × Int32 × Int32)} (hT : TrS j f f2) (h : ∀ j f f2, TrS j f f2 → VP (X (nI j) f) (Y f2 (nI j))) : VP (j_b2 (s_Voices_begin (nI b) (nI j) f) X) (j_b2 (s_M_begins (nI b) f2 (nI j)) Y) := by
  obtain ⟨j', f', f2', e1, e2, e3⟩ := v_begin (b := b) hT
  rw [e1, e2]
  exact h j' f' f2' e3
theorem v13 {d t K dep j : Nat} {x m ip : Int32} {R f f2 : Nat → Int32} (hk : VK t K m R) (h : TrS j f f2) : VP (vbd (d + 1) 13 0 x dep (nI j) f (nI K) (nI t) m) (s_M_plainParts (nI t) x R f2 (nI j) ip) := by
  unfold vbd s_M_plainParts
  refine VP_begin h (fun j f f2 h => ?_)
  rw [s_Voices_run_succ, v_run13, VK_m hk, p_b1]
  unfold s_Voices_partsOf s_M_plainParts_c25
  by_cases c : m - nI t = 0
  · rw [if_pos c, if_pos c, p_b2, p_bz (Or.inr rfl), if_neg (show ¬ (1 : Int32) = 0 by decide)]
    exact ⟨0, 0, 1, j, f, f2, rfl, rfl, h, Or.inr rfl⟩
  · rw [if_neg c, if_neg c, p_dv c, p_b2, p_bz (Or.inl rfl), if_pos rfl, p_dv c]
    exact ⟨_, _, 0, j, f, f2, rfl, rfl, h, Or.inl ⟨rfl, rfl⟩⟩
theorem v_snd1 {d : Nat} {a b c e : Int32} {j : Nat} {f : Nat → Int32} {kd nu m : Int32} : s_Voices_sound (d + 1) a b c e 1 (nI j) f kd nu m = some (0, 1, nI j, f) := by
  rw [s_Voices_sound_succ]
  unfold so_Voices_sound
  rw [if_neg (show ¬ (1 : Int32) = 0 by decide)]
theorem v21 {d t K dep j : Nat} {x m ip : Int32} {R f f2 : Nat → Int32} (hk : VK t K m R) (hd : dep + 5 ≤ 12) (h : TrS j f f2) : VP (vbd (d + 13) 21 1 x dep (nI j) f (nI K) (nI t) m) (s_M_parts_c20 (nI t) x R f2 (nI j) ip) := by
  unfold vbd s_M_parts_c20
  refine VP_begin h (fun j f f2 h => ?_)
  rw [s_Voices_run_succ, v_run21, v_sound (by omega) (by omega) (by omega)]
  obtain ⟨r, r2, p, j', f', f2', e1, e2, e3, e4⟩ := v13 (d := d + 10) (x := x) (dep := dep + 1) (ip := ip) hk h
  rw [show vbd (d + 11) (bdT (bdA 0 3) 3) (bdA 0 3) x (dep + 1) (nI j) f (nI K) (nI t) m = some (r, p, nI j', f') from e1, e2, p_b4, p_b4]
  rcases e4 with ⟨rfl, rfl⟩ | rfl
  · rw [if_pos rfl]
    obtain ⟨r3, j3, f3, f4, g1, g2, g3⟩ := v_rattles (d := d) (x := 1) (dep := dep) hk (by omega) e3
    rw [show s_Voices_sound (d + 12) (nI K) (nI 1) (nI 1) (nI dep) 0 (nI j') f' (nI K) (nI t) m = some (r3, 0, nI j3, f3) from g1, show s_M_rattles (nI t) (1 : Int32) R f2' (nI j') = some (r3, f4, nI j3) from g2]
    exact ⟨_, _, 0, j3, f3, f4, rfl, rfl, g3, Or.inl ⟨rfl, rfl⟩⟩
  · rw [if_neg (show ¬ (1 : Int32) = 0 by decide), v_snd1]
    exact ⟨_, _, 1, j', f', f2', rfl, rfl, e3, Or.inr rfl⟩
theorem v_parts {d t K dep j : Nat} {x m ip : Int32} {R f f2 : Nat → Int32} (hk : VK t K m R) (hd : dep + 6 ≤ 12) (h : TrS j f f2) : VP (s_Voices_sound (d + 14) (nI K) (nI 3) x (nI dep) 0 (nI j) f (nI K) (nI t) m) (s_M_parts (nI t) x R f2 (nI j) ip) := by
  have hK := hk.2.1
  unfold s_M_parts
  rw [v_sound hK (by omega) (by omega), VK_k hk, p_b1, p_b1]
  rcases k7 hK with rfl | rfl | rfl | rfl | rfl | rfl | rfl
  · exact VP_m (v13 hk h)
  · exact v21 hk (by omega) h
  · exact VP_m (v13 hk h)
  · exact VP_m (v13 hk h)
  · exact v21 hk (by omega) h
  · exact VP_m (v13 hk h)
  · exact VP_m (v13 hk h)
def RVo (traced : Int32) (trace : Nat → Int32) (tracedM : Int32) (traceM : Nat → Int32) : Prop := ∃ j, traced = nI j ∧ tracedM = nI j ∧ TrS j trace traceM
theorem q_voice {kind m cell broken fell : Nat → Int32} {count : Int32} {taken walls : Int64} {R E E2 trX trM : Nat → Int32} {pt tcX kd nu vm tcM ip : Int32} (hT : RTh kind m cell broken fell count taken walls R) (hV : RVo tcX trX tcM trM) (hE : ErR E E2) (a b x : Int32) :
    ∃ r pt' tcX' trX' kd' nu' vm' E' E2' trM' tcM' ip', s_X_voice a b x kind m count pt tcX trX kd nu vm E = some (r, pt', tcX', trX', kd', nu', vm', E') ∧ s_M_voice a b x R E2 trM tcM ip = some (r, E2', trM', tcM', ip') ∧ ErR E' E2' ∧ RVo tcX' trX' tcM' trM' := by
  obtain ⟨n, K, M, C, h, -, -, -⟩ := hT
  obtain ⟨hn, h1, h2, h3, h4, -⟩ := h
  obtain ⟨E1, F1, x1, x2, x3⟩ := p_err hE (k := 1) (by omega)
  obtain ⟨E6, F6, y1, y2, y3⟩ := p_err hE (k := 6) (by omega)
  have oX : s_X_voice_c23 pt tcX trX kd nu vm E = some (eL 1, pt, tcX, trX, kd, nu, vm, E1) := by
    unfold s_X_voice_c23
    rw [show (1 : Int32) = nI 1 from rfl, x1, p_b2]
  have oM : s_M_voice_c17 E2 trM tcM ip = some (eL 1, F1, trM, tcM, ip) := by
    unfold s_M_voice_c17
    rw [show (-1000000001 : Int32) = eL 1 from by decide, x2, p_b2]
  unfold s_X_voice s_M_voice
  rcases p_ix a n (by omega) with ho | ⟨t, ht, rfl⟩
  · refine ⟨eL 1, pt, tcX, trX, kd, nu, vm, E1, F1, trM, tcM, ip, ?_, ?_, x3, hV⟩
    · rw [h1, p_hO ho, p_b1, if_pos rfl, oX]
    · rw [p_thO hn h2 ho, p_b1, if_pos rfl, oM]
  · rw [h1, p_has ht hn, p_b1, if_neg (show ¬ (1 : Int32) = 0 by decide), p_thI hn h2 ht, p_b1, if_neg (show ¬ (1 : Int32) = 0 by decide)]
    rcases p_rg b 0 3 (by omega) (by omega) with ⟨hM, hX⟩ | ⟨w, -, hw, rfl, hM, hX⟩
    · refine ⟨eL 1, pt, tcX, trX, kd, nu, vm, E1, F1, trM, tcM, ip, ?_, ?_, x3, hV⟩
      · exact (hX _ _).trans oX
      · rw [show s_M_in b (0 : Int32) (3 : Int32) = some 0 from hM, p_b1, if_pos rfl, oM]
    · have hK := h3 t ht
      have hm := h4 t ht
      have hk : VK t (K t) (nI (M t)) R := ⟨by omega, hK.2.1, hK.2.2, hm.2.2⟩
      have h0 : TrS 0 trX trM := ⟨by omega, fun i hi => absurd hi (Nat.not_lt_zero _)⟩
      rw [show s_M_in (nI w) (0 : Int32) (3 : Int32) = some 1 from hM, p_b1, if_neg (show ¬ (1 : Int32) = 0 by decide)]
      have eX : ∀ {β : Type} (e t : β), (if nI w < 0 then e else if nI w ≤ (3 : Int32) then t else e) = t := fun e t => hX e t
      rw [eX, p_chk (by omega) (by omega), p_chk (by omega) (by omega), nI_clamp (by omega), hK.1, hm.1]
      unfold s_Voices_speak s_M_voice_c81
      rcases (show w = 0 ∨ w = 1 ∨ w = 2 ∨ w = 3 by omega) with e | e | e | e <;> subst e
      · obtain ⟨r, j, f, f2, g1, g2, g3⟩ := v_creaks (d := 34) (x := x) (dep := 0) hk (by omega) h0
        rw [show s_Voices_sound 40 (nI (K t)) (nI 0) x (0 : Int32) (0 : Int32) (0 : Int32) trX (nI (K t)) (nI t) (nI (M t)) = some (r, 0, nI j, f) from g1, p_b4, p_b7, if_pos rfl, if_pos (show nI 0 = 0 from rfl), show s_M_creaks (nI t) x R trM (0 : Int32) = some (r, f2, nI j) from g2, p_b3, if_pos rfl]
        exact ⟨_, _, _, _, _, _, _, _, _, _, _, _, rfl, rfl, hE, j, rfl, rfl, g3⟩
      · obtain ⟨r, j, f, f2, g1, g2, g3⟩ := v_rattles (d := 28) (x := x) (dep := 0) hk (by omega) h0
        rw [show s_Voices_sound 40 (nI (K t)) (nI 1) x (0 : Int32) (0 : Int32) (0 : Int32) trX (nI (K t)) (nI t) (nI (M t)) = some (r, 0, nI j, f) from g1, p_b4, p_b7, if_pos rfl, if_neg (show ¬ nI 1 = 0 by decide), if_pos (show nI 1 = 1 from rfl), show s_M_rattles (nI t) x R trM (0 : Int32) = some (r, f2, nI j) from g2, p_b3, if_pos rfl]
        exact ⟨_, _, _, _, _, _, _, _, _, _, _, _, rfl, rfl, hE, j, rfl, rfl, g3⟩
      · obtain ⟨r, j, f, f2, g1, g2, g3⟩ := v_groans (d := 24) (x := x) (dep := 0) hk (by omega) h0
        rw [show s_Voices_sound 40 (nI (K t)) (nI 2) x (0 : Int32) (0 : Int32) (0 : Int32) trX (nI (K t)) (nI t) (nI (M t)) = some (r, 0, nI j, f) from g1, p_b4, p_b7, if_pos rfl, if_neg (show ¬ nI 2 = 0 by decide), if_neg (show ¬ nI 2 = 1 by decide), if_pos (show nI 2 = 2 from rfl), show s_M_groans (nI t) x R trM (0 : Int32) = some (r, f2, nI j) from g2, p_b3, if_pos rfl]
        exact ⟨_, _, _, _, _, _, _, _, _, _, _, _, rfl, rfl, hE, j, rfl, rfl, g3⟩
      · obtain ⟨r, r2, p, j, f, f2, g1, g2, g3, g4⟩ := v_parts (d := 26) (x := x) (dep := 0) (ip := 0) hk (by omega) h0
        rw [show s_Voices_sound 40 (nI (K t)) (nI 3) x (0 : Int32) (0 : Int32) (0 : Int32) trX (nI (K t)) (nI t) (nI (M t)) = some (r, p, nI j, f) from g1, p_b4, p_b7, if_neg (show ¬ nI 3 = 0 by decide), if_neg (show ¬ nI 3 = 1 by decide), if_neg (show ¬ nI 3 = 2 by decide), show s_M_parts (nI t) x R trM (0 : Int32) (0 : Int32) = some (r2, f2, nI j, p) from g2, p_b4]
        rcases g4 with ⟨rfl, rfl⟩ | rfl
        · rw [if_pos rfl, if_pos rfl]
          exact ⟨_, _, _, _, _, _, _, _, _, _, _, _, rfl, rfl, hE, j, rfl, rfl, g3⟩
        · rw [if_neg (show ¬ (1 : Int32) = 0 by decide), if_neg (show ¬ (1 : Int32) = 0 by decide), show (6 : Int32) = nI 6 from rfl, y1, p_b2, show (-1000000006 : Int32) = eL 6 from by decide, y2, p_b2]
          exact ⟨_, _, _, _, _, _, _, _, _, _, _, _, rfl, rfl, y3, j, rfl, rfl, g3⟩
theorem p_inS {x : Int32} {n : Nat} (hn : n < 2 ^ 30) (h : x < 0 ∨ nI n ≤ x) : s_M_in x 0 (nI n - 1) = some 0 := by
  have h1 : (nI n - 1).toInt = (n : Int) - 1 := by
    have h1 : (1 : Int32).toInt = 1 := by decide
    rw [p_subI (by rw [p_ti n (by omega), h1]; omega) (by rw [p_ti n (by omega), h1]; omega), p_ti n (by omega), h1]
  unfold s_M_in
  by_cases c : x < 0
  · rw [if_pos c]
  · rcases h with h | h
    · exact absurd h c
    · rw [if_neg c, if_pos]
      rw [Int32.lt_iff_toInt_lt, h1]
      rw [Int32.le_iff_toInt_le, p_ti n (by omega)] at h
      omega
theorem p_inSI {t n : Nat} (hn : n < 2 ^ 30) (h : t < n) : s_M_in (nI t) 0 (nI n - 1) = some 1 := by
  rw [show nI n - (1 : Int32) = nI (n - 1) from pk_sub (a := n) (b := 1) (by omega), p_inI (by omega) (by omega)]
theorem q_body {tcX tcM : Int32} {trX trM E E2 : Nat → Int32} (hV : RVo tcX trX tcM trM) (hE : ErR E E2) (a : Int32) :
    ∃ r E' E2', s_X_body a tcX trX E = some (r, E') ∧ s_M_body a E2 trM tcM = some (r, E2') ∧ ErR E' E2' := by
  obtain ⟨j, rfl, rfl, hj, hf⟩ := hV
  obtain ⟨E1, F1, x1, x2, x3⟩ := p_err hE (k := 2) (by omega)
  have oX : s_X_body_c15 E = some (eL 2, E1) := by
    unfold s_X_body_c15
    rw [show (2 : Int32) = nI 2 from rfl, x1, p_b2]
  unfold s_X_body s_M_body
  rcases p_ix a j (by omega) with ho | ⟨i, hi, rfl⟩
  · refine ⟨eL 2, E1, F1, ?_, ?_, x3⟩
    · rcases ho with ho | ho
      · rw [if_pos ho, oX]
      · have : ¬ a < nI j := by
          rw [Int32.lt_iff_toInt_lt]
          rw [Int32.le_iff_toInt_le] at ho
          omega
        rw [if_neg this, oX, ite_self]
    · rw [p_inS (by omega) ho, p_b1, if_pos rfl, show (-1000000002 : Int32) = eL 2 from by decide, x2, p_b2]
  · refine ⟨trX i, E, E2, ?_, ?_, hE⟩
    · unfold s_Voices_bodyInTrace
      rw [if_neg (p_nlt0 (by omega)), if_pos (nI_lt hi (by omega)), if_neg (p_nlt0 (by omega)), if_neg (nI_ge hi (by omega)), if_neg (show ¬ (30 : Int32) ≤ nI i from nI_ge (b := 30) (by omega) (by omega)), p_chk (by omega) (by omega), nI_clamp (by omega), p_b1]
    · rw [p_inSI (by omega) hi, p_b1, if_neg (show ¬ (1 : Int32) = 0 by decide), p_chk (by omega) (by omega), nI_clamp (by omega), hf i hi]
