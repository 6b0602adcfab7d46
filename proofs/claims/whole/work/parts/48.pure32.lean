/-! pure 34: texts: the loops of both readers -/
def PR (L op lo p s D : Nat) (X : Option ((Nat → Int32) × Int32 × Int32 × Int32)) (Y : Option ((Nat → Int32) × (Nat → Int32) × Int32 × Int32 × Int32 × Int32)) : Prop :=
  ∃ st' ac' wi' p' s', p ≤ p' ∧ p' ≤ L ∧ s' ≤ 60 ∧ ((X = some (st', nI s', -1, nI p') ∧ Y = some (ac', wi', nI s', nI p', nI op, 0) ∧ lo ≤ p' ∧ s' + p ≤ s + p' ∧ Wf st' ac' wi' s' (D + 1)) ∨ (∃ l', l' ≤ 60 ∧ X = some (st', nI s', nI p', nI p') ∧ Y = some (ac', wi', nI l', nI p', nI op, 1)))
def GP (L op : Nat) (gX : (Nat → Int32) → Int32 → Int32 → Int32 → Option ((Nat → Int32) × Int32 × Int32 × Int32)) (gM : (Nat → Int32) → (Nat → Int32) → Int32 → Int32 → Int32 → Int32 → Option ((Nat → Int32) × (Nat → Int32) × Int32 × Int32 × Int32 × Int32)) : Prop :=
  ∀ (p s D : Nat) (st ac wi : Nat → Int32), p ≤ L → s ≤ p → Wf st ac wi s D → PR L op (p + 1) p s D (gX st (nI s) (-1) (nI p)) (gM ac wi (nI s) (nI p) (nI op) 0)
def rkN (b : Nat) : Nat := if b = 124 then 0 else if b = 38 then 1 else if b = 60 ∨ b = 61 ∨ b = 62 then 2 else if b = 43 ∨ b = 45 then 3 else if b = 42 ∨ b = 47 ∨ b = 37 then 4 else 9
theorem t_rk : ∀ b, b < 256 → s_TextReader_rankOf (nI b) = some (if rkN b < 5 then nI (rkN b) else -1) := by decide +kernel
theorem t_rk1 : s_TextReader_rankOf (-1) = some (-1) := by decide +kernel
theorem t_bop {b : Nat} (h : rkN b < 5) : bop b := by
  unfold rkN at h
  unfold bop
  by_cases c1 : b = 124
  · omega
  by_cases c2 : b = 38
  · omega
  by_cases c3 : b = 60 ∨ b = 61 ∨ b = 62
  · omega
  by_cases c4 : b = 43 ∨ b = 45
  · omega
  by_cases c5 : b = 42 ∨ b = 47 ∨ b = 37
  · omega
  rw [if_neg c1, if_neg c2, if_neg c3, if_neg c4, if_neg c5] at h
  exact absurd h (by decide)
/-- the sign at p is one of rank r -/
def isR (L : Nat) (R : Nat → Int32) (r p : Nat) : Prop := ∃ b, b < 256 ∧ sg L R p = nI b ∧ rkN b = r
theorem t_isR {L : Nat} {bytes R : Nat → Int32} (h : TpC L bytes R) {r : Nat} (hr : r < 5) (p : Nat) : (s_TextReader_rankOf (sg L R p) = some (nI r) ∧ p < L ∧ ∃ b, b < 256 ∧ sg L R p = nI b ∧ rkN b = r) ∨ (¬ isR L R r p ∧ ∃ x, s_TextReader_rankOf (sg L R p) = some x ∧ ¬ x = nI r) := by
  have h1 : ∀ r, r < 5 → ¬ (-1 : Int32) = nI r := by decide +kernel
  rcases t_sgb h p with ⟨e1, e2⟩ | ⟨b, b1, b2, b3⟩
  · refine Or.inr ⟨?_, -1, by rw [e1]; exact t_rk1, h1 r hr⟩
    rintro ⟨b, b1, b2, b3⟩
    have h2 : ∀ b, b < 256 → ¬ (-1 : Int32) = nI b := by decide +kernel
    exact h2 b b1 (e1.symm.trans b2)
  · have hk := t_rk b b1
    by_cases c : rkN b = r
    · refine Or.inl ⟨?_, b3, b, b1, b2, c⟩
      rw [b2, hk, c, if_pos hr]
    · refine Or.inr ⟨?_, _, by rw [b2]; exact hk, ?_⟩
      · rintro ⟨b', c1, c2, c3⟩
        have : b = b' := (nI_eq (by omega) (by omega)).mp (b2.symm.trans c2)
        rw [this] at c
        exact c c3
      · by_cases q : rkN b < 5
        · rw [if_pos q]
          intro z
          exact c ((nI_eq (by omega) (by omega)).mp z)
        · rw [if_neg q]
          exact h1 r hr
section
variable {L op r u : Nat} {bytes R : Nat → Int32} {gp : Int32 → Int32 → (Nat → Int32) → Int32 → Int32 → (Nat → Int32) → Int32 → Int32 → Int32 → (Option ((Nat → Int32) × Int32 × Int32 × Int32))} {gM : (Nat → Int32) → (Nat → Int32) → Int32 → Int32 → Int32 → Int32 → Option ((Nat → Int32) × (Nat → Int32) × Int32 × Int32 × Int32 × Int32)} {K : Nat → (Nat → Int32) → (Nat → Int32) → Int32 → Int32 → Int32 → Int32 → Option ((Nat → Int32) × (Nat → Int32) × Int32 × Int32 × Int32 × Int32)}
theorem t_c24F {mx : Int32} {n : Nat} {x : Int32} {st : Nat → Int32} {cn f a : Int32} (hf : 0 ≤ f) : s_TextReader_readRank_c24 gp (nI r) (nI op) mx bytes (nI L) (nI u) (n + 1) x st cn f a = some (st, cn, f, a) := by
  rw [s_TextReader_readRank_c24, if_pos hf, ite_self]
theorem t_loop (h : TpC L bytes R) (hr : r < 5) (hG : GP L op (fun st c f a => gp (nI r) (nI op) st c f bytes (nI L) a (nI u)) gM) (hK1 : ∀ n ac wi l h o, K (n + 1) ac wi l h o 1 = some (ac, wi, l, h, o, 1)) (hKy : ∀ n ac wi l p o b, p ≤ 60 → b < 256 → sg L R p = nI b → rkN b = r → K (n + 1) ac wi l (nI p) o 0 = j_b6 (gM ac wi l (nI (p + 1)) o 0) (fun ac wi l h o bd => j_b3 (s_M_step (nI b) 0 ac wi l) (fun ac wi l => K n ac wi l h o bd))) (hKn : ∀ n ac wi l p o, p ≤ 60 → ¬ isR L R r p → K (n + 1) ac wi l (nI p) o 0 = some (ac, wi, l, nI p, o, 0)) :
    ∀ (fuel fuel' m i p s D : Nat) (st ac wi : Nat → Int32), L - p ≤ m → m < fuel → m < fuel' → i < p → p ≤ L → s ≤ p → Wf st ac wi s (D + 1) → PR L op p p s D (s_TextReader_readRank_c24 gp (nI r) (nI op) (60 : Int32) bytes (nI L) (nI u) fuel (nI i) st (nI s) (-1) (nI p)) (K fuel' ac wi (nI s) (nI p) (nI op) 0) := by
  have hL := h.1
  intro fuel
  induction fuel with
  | zero => intro fuel' m i p s D st ac wi _ h; exact absurd h (Nat.not_lt_zero _)
  | succ fuel ih =>
    intro fuel' m i p s D st ac wi hm hf hf' hi hp hs hw
    cases fuel' with
    | zero => exact absurd hf' (Nat.not_lt_zero _)
    | succ fuel' =>
    rw [s_TextReader_readRank_c24, if_neg (show ¬ (60 : Int32) ≤ nI i from nI_ge (b := 60) (by omega) (by omega)), if_neg (show ¬ (0 : Int32) ≤ -1 by decide), t_sgX h (by omega), p_b1]
    rcases t_isR h hr p with ⟨e1, e2, b, b1, b2, b3⟩ | ⟨e1, x, e2, e3⟩
    · rw [e1, p_b1, if_pos rfl, p_b1, b2, nI_1, hKy _ _ _ _ _ _ b (by omega) b1 b2 b3, show (20000 : Int32) + nI b = nI (20000 + b) from nI_add 20000 b, nI_1]
      obtain ⟨st1, ac1, wi1, p1, s1, q1, q2, q3, q4⟩ := hG (p + 1) s (D + 1) st ac wi (by omega) (by omega) hw
      rcases q4 with ⟨y1, y2, y3, y4, y5⟩ | ⟨l1, y0, y1, y2⟩
      · rw [show gp (nI r) (nI op) st (nI s) (-1) bytes (nI L) (nI (p + 1)) (nI u) = some (st1, nI s1, -1, nI p1) from y1, y2, p_b4, p_b6, t_emitI (by omega), t_stepI (by omega), p_b2, p_b3]
        have hw1 : Wf (upd st1 s1 (nI (20000 + b))) (upd ac1 s1 (nI b)) (upd wi1 s1 0) (s1 + 1) (D + 1) := by
          refine Wf_new y5 (Or.inr (Or.inr (Or.inr ⟨⟨b, t_bop (by rw [b3]; exact hr), pk_us, pk_us⟩, by omega, by omega⟩)))
        obtain ⟨st2, ac2, wi2, p2, s2, z1, z2, z3, z4⟩ := ih fuel' (m - 1) (i + 1) p1 (s1 + 1) D _ _ _ (by omega) (by omega) (by omega) (by omega) q2 (by omega) hw1
        refine ⟨st2, ac2, wi2, p2, s2, by omega, z2, z3, ?_⟩
        rcases z4 with ⟨w1, w2, w3, w4, w5⟩ | w
        · exact Or.inl ⟨w1, w2, by omega, by omega, w5⟩
        · exact Or.inr w
      · rw [show gp (nI r) (nI op) st (nI s) (-1) bytes (nI L) (nI (p + 1)) (nI u) = some (st1, nI s1, nI p1, nI p1) from y1, y2, p_b4, p_b6]
        obtain ⟨st2, s2, z1, z2⟩ := t_emitF (x := nI (20000 + b)) (st := st1) q3
        obtain ⟨ac2, wi2, l2, z3, z4⟩ := t_stepF (x := nI b) (y := 0) (ac := ac1) (wi := wi1) y0
        cases fuel with
        | zero => exact absurd hf (by omega)
        | succ fuel =>
        cases fuel' with
        | zero => exact absurd hf' (by omega)
        | succ fuel' =>
        rw [z2, z4, p_b2, p_b3, t_c24F (nI_pos' (by omega)), hK1]
        exact ⟨st2, ac2, wi2, p1, s2, by omega, q2, z1, Or.inr ⟨l2, z3, rfl, rfl⟩⟩
    · rw [e2, p_b1, if_neg e3, hKn _ _ _ _ _ _ (by omega) e1]
      exact ⟨st, ac, wi, p, s, Nat.le_refl _, hp, by omega, Or.inl ⟨rfl, rfl, Nat.le_refl _, Nat.le_refl _, hw⟩⟩
theorem t_rank (h : TpC L bytes R) (hr : r < 5) (hG : GP L op (fun st c f a => gp (nI r) (nI op) st c f bytes (nI L) a (nI u)) gM) (hK1 : ∀ n ac wi l h o, K (n + 1) ac wi l h o 1 = some (ac, wi, l, h, o, 1)) (hKy : ∀ n ac wi l p o b, p ≤ 60 → b < 256 → sg L R p = nI b → rkN b = r → K (n + 1) ac wi l (nI p) o 0 = j_b6 (gM ac wi l (nI (p + 1)) o 0) (fun ac wi l h o bd => j_b3 (s_M_step (nI b) 0 ac wi l) (fun ac wi l => K n ac wi l h o bd))) (hKn : ∀ n ac wi l p o, p ≤ 60 → ¬ isR L R r p → K (n + 1) ac wi l (nI p) o 0 = some (ac, wi, l, nI p, o, 0)) :
    GP L op (fun st c f a => j_b4 (gp (nI r) (nI op) st c f bytes (nI L) a (nI u)) (fun st c f a => s_TextReader_readRank_c24 gp (nI r) (nI op) (60 : Int32) bytes (nI L) (nI u) 400 (0 : Int32) st c f a)) (fun ac wi l h o b => j_b6 (gM ac wi l h o b) (fun ac wi l h o b => K 400 ac wi l h o b)) := by
  have hL := h.1
  intro p s D st ac wi hp hs hw
  dsimp only
  obtain ⟨st1, ac1, wi1, p1, s1, q1, q2, q3, q4⟩ := hG p s D st ac wi hp hs hw
  rcases q4 with ⟨y1, y2, y3, y4, y5⟩ | ⟨l1, y0, y1, y2⟩
  · rw [show gp (nI r) (nI op) st (nI s) (-1) bytes (nI L) (nI p) (nI u) = some (st1, nI s1, -1, nI p1) from y1, y2, p_b4, p_b6]
    obtain ⟨st2, ac2, wi2, p2, s2, z1, z2, z3, z4⟩ := t_loop h hr hG hK1 hKy hKn 400 400 (L - p1) 0 p1 s1 D st1 ac1 wi1 (by omega) (by omega) (by omega) (by omega) q2 (by omega) y5
    refine ⟨st2, ac2, wi2, p2, s2, by omega, z2, z3, ?_⟩
    rcases z4 with ⟨w1, w2, w3, w4, w5⟩ | w
    · exact Or.inl ⟨w1, w2, by omega, by omega, w5⟩
    · exact Or.inr w
  · rw [show gp (nI r) (nI op) st (nI s) (-1) bytes (nI L) (nI p) (nI u) = some (st1, nI s1, nI p1, nI p1) from y1, y2, p_b4, p_b6, t_c24F (nI_pos' (by omega)), hK1]
    exact ⟨st1, ac1, wi1, p1, s1, q1, q2, q3, Or.inr ⟨l1, y0, rfl, rfl⟩⟩
end
theorem t_xid {X : Option ((Nat → Int32) × Int32 × Int32 × Int32)} : j_b4 X (fun a b c d => some (a, b, c, d)) = X := by
  cases X with
  | none => rfl
  | some q => rfl
theorem t_mid {Y : Option ((Nat → Int32) × (Nat → Int32) × Int32 × Int32 × Int32 × Int32)} : j_b6 Y (fun a b c d e f => some (a, b, c, d, e, f)) = Y := by
  cases Y with
  | none => rfl
  | some q => rfl
theorem t_in4 : ∀ b, b < 256 → rkN b = 4 → b = 42 ∨ b = 47 ∨ b = 37 := by decide +kernel
theorem t_in3 : ∀ b, b < 256 → rkN b = 3 → b = 43 ∨ b = 45 := by decide +kernel
theorem t_in2 : ∀ b, b < 256 → rkN b = 2 → b = 60 ∨ b = 61 ∨ b = 62 := by decide +kernel
theorem t_in1 : ∀ b, b < 256 → rkN b = 1 → b = 38 := by decide +kernel
theorem t_in0 : ∀ b, b < 256 → rkN b = 0 → b = 124 := by decide +kernel
theorem t_nis {L : Nat} {R : Nat → Int32} {r p : Nat} (h : ¬ isR L R r p) (b : Nat) (hb : b < 256) (hr : rkN b = r) : ¬ sg L R p = nI b := fun z => h ⟨b, hb, z, hr⟩
section
variable {L op u : Nat} {bytes R : Nat → Int32}
theorem t_times (h : TpC L bytes R) {d e : Nat} (hG : GP L op (fun st c f a => s_TextReader_readPart d (nI 4) (nI op) st c f bytes (nI L) a (nI u)) (fun ac wi l h o b => s_M_one e R ac wi l h o b (nI u))) : GP L op (fun st c f a => s_TextReader_readRank (d + 1) (nI 4) (nI op) st c f bytes (nI L) a (nI u)) (fun ac wi l h o b => s_M_times (e + 1) R ac wi l h o b (nI u)) := by
  refine t_rank (r := 4) (gp := s_TextReader_readPart d) (gM := fun ac wi l h o b => s_M_one e R ac wi l h o b (nI u)) (K := s_M_times_c4 (s_M_one e) R (nI u)) h (by omega) hG ?_ ?_ ?_
  · intro n ac wi l h o
    rw [s_M_times_c4, if_neg (show ¬ (1 : Int32) = 0 by decide)]
  · intro n ac wi l p o b hp hb e1 e2
    rw [s_M_times_c4, if_pos rfl, t_sgM h hp, p_b1, p_b1, p_b1, e1]
    unfold s_M_times_c38
    rw [t_sgM h hp, p_b1, nI_1, e1]
    rcases t_in4 b hb e2 with z | z | z <;> subst z <;> rfl
  · intro n ac wi l p o hp hn
    rw [s_M_times_c4, if_pos rfl, t_sgM h hp, p_b1, p_b1, p_b1, if_neg (show ¬ sg L R p = 42 from t_nis hn 42 (by omega) rfl), if_neg (show ¬ sg L R p = 47 from t_nis hn 47 (by omega) rfl), if_neg (show ¬ sg L R p = 37 from t_nis hn 37 (by omega) rfl)]
theorem t_sum (h : TpC L bytes R) {d e : Nat} (hG : GP L op (fun st c f a => s_TextReader_readPart d (nI 3) (nI op) st c f bytes (nI L) a (nI u)) (fun ac wi l h o b => s_M_times e R ac wi l h o b (nI u))) : GP L op (fun st c f a => s_TextReader_readRank (d + 1) (nI 3) (nI op) st c f bytes (nI L) a (nI u)) (fun ac wi l h o b => s_M_sum (e + 1) R ac wi l h o b (nI u)) := by
  refine t_rank (r := 3) (gp := s_TextReader_readPart d) (gM := fun ac wi l h o b => s_M_times e R ac wi l h o b (nI u)) (K := s_M_sum_c4 (s_M_times e) R (nI u)) h (by omega) hG ?_ ?_ ?_
  · intro n ac wi l h o
    rw [s_M_sum_c4, if_neg (show ¬ (1 : Int32) = 0 by decide)]
  · intro n ac wi l p o b hp hb e1 e2
    rw [s_M_sum_c4, if_pos rfl, t_sgM h hp, p_b1, p_b1, e1]
    unfold s_M_sum_c29
    rw [t_sgM h hp, p_b1, nI_1, e1]
    rcases t_in3 b hb e2 with z | z <;> subst z <;> rfl
  · intro n ac wi l p o hp hn
    rw [s_M_sum_c4, if_pos rfl, t_sgM h hp, p_b1, p_b1, if_neg (show ¬ sg L R p = 43 from t_nis hn 43 (by omega) rfl), if_neg (show ¬ sg L R p = 45 from t_nis hn 45 (by omega) rfl)]
theorem t_all (h : TpC L bytes R) {d e : Nat} (hG : GP L op (fun st c f a => s_TextReader_readPart d (nI 1) (nI op) st c f bytes (nI L) a (nI u)) (fun ac wi l h o b => s_M_compares e R ac wi l h o b (nI u))) : GP L op (fun st c f a => s_TextReader_readRank (d + 1) (nI 1) (nI op) st c f bytes (nI L) a (nI u)) (fun ac wi l h o b => s_M_all (e + 1) R ac wi l h o b (nI u)) := by
  refine t_rank (r := 1) (gp := s_TextReader_readPart d) (gM := fun ac wi l h o b => s_M_compares e R ac wi l h o b (nI u)) (K := s_M_all_c4 (s_M_compares e) R (nI u)) h (by omega) hG ?_ ?_ ?_
  · intro n ac wi l h o
    rw [s_M_all_c4, if_neg (show ¬ (1 : Int32) = 0 by decide)]
  · intro n ac wi l p o b hp hb e1 e2
    rw [s_M_all_c4, if_pos rfl, t_sgM h hp, p_b1, nI_1, e1]
    have z := t_in1 b hb e2
    subst z
    rfl
  · intro n ac wi l p o hp hn
    rw [s_M_all_c4, if_pos rfl, t_sgM h hp, p_b1, if_neg (show ¬ sg L R p = 38 from t_nis hn 38 (by omega) rfl)]
theorem t_any (h : TpC L bytes R) {d e : Nat} (hG : GP L op (fun st c f a => s_TextReader_readPart d (nI 0) (nI op) st c f bytes (nI L) a (nI u)) (fun ac wi l h o b => s_M_all e R ac wi l h o b (nI u))) : GP L op (fun st c f a => s_TextReader_readRank (d + 1) (nI 0) (nI op) st c f bytes (nI L) a (nI u)) (fun ac wi l h o b => s_M_any (e + 1) R ac wi l h o b (nI u)) := by
  refine t_rank (r := 0) (gp := s_TextReader_readPart d) (gM := fun ac wi l h o b => s_M_all e R ac wi l h o b (nI u)) (K := s_M_any_c4 (s_M_all e) R (nI u)) h (by omega) hG ?_ ?_ ?_
  · intro n ac wi l h o
    rw [s_M_any_c4, if_neg (show ¬ (1 : Int32) = 0 by decide)]
  · intro n ac wi l p o b hp hb e1 e2
    rw [s_M_any_c4, if_pos rfl, t_sgM h hp, p_b1, nI_1, e1]
    have z := t_in0 b hb e2
    subst z
    rfl
  · intro n ac wi l p o hp hn
    rw [s_M_any_c4, if_pos rfl, t_sgM h hp, p_b1, if_neg (show ¬ sg L R p = 124 from t_nis hn 124 (by omega) rfl)]
theorem t_part {d r : Nat} {gM : (Nat → Int32) → (Nat → Int32) → Int32 → Int32 → Int32 → Int32 → Option ((Nat → Int32) × (Nat → Int32) × Int32 × Int32 × Int32 × Int32)} (hr : r < 4) (hG : GP L op (fun st c f a => s_TextReader_readRank d (nI (r + 1)) (nI op) st c f bytes (nI L) a (nI u)) gM) : GP L op (fun st c f a => s_TextReader_readPart (d + 1) (nI r) (nI op) st c f bytes (nI L) a (nI u)) gM := by
  intro p s D st ac wi hp hs hw
  dsimp only
  have e : s_TextReader_readPart (d + 1) (nI r) (nI op) st (nI s) (-1) bytes (nI L) (nI p) (nI u) = s_TextReader_readRank d (nI (r + 1)) (nI op) st (nI s) (-1) bytes (nI L) (nI p) (nI u) := by
    rw [s_TextReader_readPart_succ]
    unfold so_TextReader_readPart
    rw [if_neg (p_nlt0 (by omega)), if_neg (show ¬ (4 : Int32) ≤ nI r from nI_ge (b := 4) hr (by omega)), t_xid, nI_1]
  rw [e]
  exact hG p s D st ac wi hp hs hw
theorem t_part4 {d : Nat} {gM : (Nat → Int32) → (Nat → Int32) → Int32 → Int32 → Int32 → Int32 → Option ((Nat → Int32) × (Nat → Int32) × Int32 × Int32 × Int32 × Int32)} (hG : GP L op (fun st c f a => s_TextReader_readFactor d (nI op) st c f bytes (nI L) a (nI u)) gM) : GP L op (fun st c f a => s_TextReader_readPart (d + 1) (nI 4) (nI op) st c f bytes (nI L) a (nI u)) gM := by
  intro p s D st ac wi hp hs hw
  dsimp only
  have e : s_TextReader_readPart (d + 1) (nI 4) (nI op) st (nI s) (-1) bytes (nI L) (nI p) (nI u) = s_TextReader_readFactor d (nI op) st (nI s) (-1) bytes (nI L) (nI p) (nI u) := by
    rw [s_TextReader_readPart_succ]
    unfold so_TextReader_readPart s_TextReader_readPart_c20
    rw [if_pos (show (4 : Int32) ≤ nI 4 by decide), ite_self, t_xid]
  rw [e]
  exact hG p s D st ac wi hp hs hw
theorem t_compares (h : TpC L bytes R) {d e : Nat} (hG : GP L op (fun st c f a => s_TextReader_readPart d (nI 2) (nI op) st c f bytes (nI L) a (nI u)) (fun ac wi l h o b => s_M_sum e R ac wi l h o b (nI u))) : GP L op (fun st c f a => s_TextReader_readRank (d + 1) (nI 2) (nI op) st c f bytes (nI L) a (nI u)) (fun ac wi l h o b => s_M_compares (e + 1) R ac wi l h o b (nI u)) := by
  have hL := h.1
  intro p s D st ac wi hp hs hw
  dsimp only
  rw [s_TextReader_readRank_succ, s_M_compares_succ]
  unfold so_TextReader_readRank so_M_compares s_TextReader_readRank_c20
  obtain ⟨st1, ac1, wi1, p1, s1, q1, q2, q3, q4⟩ := hG p s D st ac wi hp hs hw
  rcases q4 with ⟨y1, y2, y3, y4, y5⟩ | ⟨l1, y0, y1, y2⟩
  · rw [show s_TextReader_readPart d (nI 2) (nI op) st (nI s) (-1) bytes (nI L) (nI p) (nI u) = some (st1, nI s1, -1, nI p1) from y1, show s_M_sum e R ac wi (nI s) (nI p) (nI op) 0 (nI u) = _ from y2, p_b4, p_b6, if_pos (show nI 2 = 2 from rfl), t_sgM h (by omega), p_b1, if_pos rfl, s_TextReader_readRank_c24, if_neg (show ¬ (1 : Int32) ≤ 0 by decide), if_neg (show ¬ (0 : Int32) ≤ -1 by decide), t_sgX h (by omega), p_b1]
    rcases t_isR h (show 2 < 5 by omega) p1 with ⟨e1, e2, b, b1, b2, b3⟩ | ⟨e1, x, e2, e3⟩
    · rw [e1, p_b1, if_pos rfl, p_b1, b2, nI_1, show (20000 : Int32) + nI b = nI (20000 + b) from nI_add 20000 b]
      have eM : (if nI b = (60 : Int32) then s_M_compares_c34 (s_M_sum e) (nI b) R ac1 wi1 (nI s1) (nI p1) (nI op) 0 (nI u) else if nI b = (61 : Int32) then s_M_compares_c34 (s_M_sum e) (nI b) R ac1 wi1 (nI s1) (nI p1) (nI op) 0 (nI u) else if nI b = (62 : Int32) then s_M_compares_c34 (s_M_sum e) (nI b) R ac1 wi1 (nI s1) (nI p1) (nI op) 0 (nI u) else some (ac1, wi1, nI s1, nI p1, nI op, 0)) = s_M_compares_c34 (s_M_sum e) (nI b) R ac1 wi1 (nI s1) (nI p1) (nI op) 0 (nI u) := by
        rcases t_in2 b b1 b3 with z | z | z <;> subst z <;> rfl
      rw [eM]
      unfold s_M_compares_c34
      rw [nI_1]
      obtain ⟨st2, ac2, wi2, p2, s2, k1, k2, k3, k4⟩ := hG (p1 + 1) s1 (D + 1) st1 ac1 wi1 (by omega) (by omega) y5
      rcases k4 with ⟨j1, j2, j3, j4, j5⟩ | ⟨l2, j0, j1, j2⟩
      · rw [show s_TextReader_readPart d (nI 2) (nI op) st1 (nI s1) (-1) bytes (nI L) (nI (p1 + 1)) (nI u) = some (st2, nI s2, -1, nI p2) from j1, show s_M_sum e R ac1 wi1 (nI s1) (nI (p1 + 1)) (nI op) 0 (nI u) = _ from j2, p_b4, p_b6, t_emitI (by omega), t_stepI (by omega), p_b2, p_b3, s_TextReader_readRank_c24, if_pos (show (1 : Int32) ≤ 0 + 1 by decide)]
        refine ⟨_, _, _, p2, s2 + 1, by omega, k2, by omega, Or.inl ⟨rfl, rfl, by omega, by omega, ?_⟩⟩
        exact Wf_new j5 (Or.inr (Or.inr (Or.inr ⟨⟨b, t_bop (by rw [b3]; omega), pk_us, pk_us⟩, by omega, by omega⟩)))
      · rw [show s_TextReader_readPart d (nI 2) (nI op) st1 (nI s1) (-1) bytes (nI L) (nI (p1 + 1)) (nI u) = some (st2, nI s2, nI p2, nI p2) from j1, show s_M_sum e R ac1 wi1 (nI s1) (nI (p1 + 1)) (nI op) 0 (nI u) = _ from j2, p_b4, p_b6]
        obtain ⟨st3, s3, z1, z2⟩ := t_emitF (x := nI (20000 + b)) (st := st2) k3
        obtain ⟨ac3, wi3, l3, z3, z4⟩ := t_stepF (x := nI b) (y := 0) (ac := ac2) (wi := wi2) j0
        rw [z2, z4, p_b2, p_b3, s_TextReader_readRank_c24, if_pos (show (1 : Int32) ≤ 0 + 1 by decide)]
        exact ⟨st3, ac3, wi3, p2, s3, by omega, k2, z1, Or.inr ⟨l3, z3, rfl, rfl⟩⟩
    · rw [e2, p_b1, if_neg e3, if_neg (show ¬ sg L R p1 = 60 from t_nis e1 60 (by omega) rfl), if_neg (show ¬ sg L R p1 = 61 from t_nis e1 61 (by omega) rfl), if_neg (show ¬ sg L R p1 = 62 from t_nis e1 62 (by omega) rfl)]
      exact ⟨st1, ac1, wi1, p1, s1, q1, q2, q3, Or.inl ⟨rfl, rfl, y3, y4, y5⟩⟩
  · rw [show s_TextReader_readPart d (nI 2) (nI op) st (nI s) (-1) bytes (nI L) (nI p) (nI u) = some (st1, nI s1, nI p1, nI p1) from y1, show s_M_sum e R ac wi (nI s) (nI p) (nI op) 0 (nI u) = _ from y2, p_b4, p_b6, if_pos (show nI 2 = 2 from rfl), t_sgM h (by omega), p_b1, if_neg (show ¬ (1 : Int32) = 0 by decide), t_c24F (nI_pos' (by omega))]
    exact ⟨st1, ac1, wi1, p1, s1, q1, q2, q3, Or.inr ⟨l1, y0, rfl, rfl⟩⟩
/-- a whole text within op that are open, where a factor is read alike -/
theorem t_full (h : TpC L bytes R) {d e : Nat} (hG : GP L op (fun st c f a => s_TextReader_readFactor d (nI op) st c f bytes (nI L) a (nI u)) (fun ac wi l h o b => s_M_one e R ac wi l h o b (nI u))) : GP L op (fun st c f a => s_TextReader_readRank (d + 10) (nI 0) (nI op) st c f bytes (nI L) a (nI u)) (fun ac wi l h o b => s_M_any (e + 5) R ac wi l h o b (nI u)) :=
  t_any (d := d + 9) (e := e + 4) h (t_part (r := 0) (by omega) (t_all (d := d + 7) (e := e + 3) h (t_part (r := 1) (by omega) (t_compares (d := d + 5) (e := e + 2) h (t_part (r := 2) (by omega) (t_sum (d := d + 3) (e := e + 1) h (t_part (r := 3) (by omega) (t_times (d := d + 1) (e := e) h (t_part4 hG)))))))))
end
