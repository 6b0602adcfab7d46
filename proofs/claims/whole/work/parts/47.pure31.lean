/-! pure 33: texts: what is laid; signs, numbers, names -/
def StW (st ac wi : Nat → Int32) (s D0 D : Nat) : Prop := (ac s = nI 1 ∧ (∃ v, v < 10000 ∧ wi s = nI v ∧ st s = nI v) ∧ D = D0 + 1) ∨ (ac s = nI 2 ∧ (∃ v, v < 3 ∧ wi s = nI v ∧ st s = nI (10000 + v)) ∧ D = D0 + 1) ∨ (ac s = nI 3 ∧ st s = nI 20033 ∧ 1 ≤ D0 ∧ D = D0) ∨ ((∃ op, bop op ∧ ac s = nI op ∧ st s = nI (20000 + op)) ∧ 2 ≤ D0 ∧ D = D0 - 1)
/-- so many steps are laid, and would leave so many numbers on the pile -/
def Wf (st ac wi : Nat → Int32) : Nat → Nat → Prop
  | 0, D => D = 0
  | s + 1, D => ∃ D0, Wf st ac wi s D0 ∧ StW st ac wi s D0 D
theorem Wf_le {st ac wi : Nat → Int32} : ∀ s D, Wf st ac wi s D → D ≤ s := by
  intro s
  induction s with
  | zero => intro D h; exact Nat.le_of_eq h
  | succ s ih =>
    intro D ⟨D0, h1, h2⟩
    have := ih D0 h1
    rcases h2 with ⟨-, -, h⟩ | ⟨-, -, h⟩ | ⟨-, -, -, h⟩ | ⟨-, -, h⟩ <;> omega
theorem Wf_on {st ac wi st' ac' wi' : Nat → Int32} : ∀ s D, (∀ j, j < s → st' j = st j ∧ ac' j = ac j ∧ wi' j = wi j) → Wf st ac wi s D → Wf st' ac' wi' s D := by
  intro s
  induction s with
  | zero => intro D _ h; exact h
  | succ s ih =>
    intro D hj ⟨D0, h1, h2⟩
    refine ⟨D0, ih D0 (fun j hj1 => hj j (by omega)) h1, ?_⟩
    obtain ⟨e1, e2, e3⟩ := hj s (by omega)
    unfold StW
    rw [e1, e2, e3]
    exact h2
theorem Wf_new {st ac wi : Nat → Int32} {s D0 D : Nat} {x a w : Int32} (h : Wf st ac wi s D0) (h2 : StW (upd st s x) (upd ac s a) (upd wi s w) s D0 D) : Wf (upd st s x) (upd ac s a) (upd wi s w) (s + 1) D :=
  ⟨D0, Wf_on s D0 (fun j hj => ⟨pk_un (by omega), pk_un (by omega), pk_un (by omega)⟩) h, h2⟩
theorem Wf_cd {st ac wi : Nat → Int32} : ∀ s D, Wf st ac wi s D → ∃ o v d : Nat → Nat, d 0 = 0 ∧ d s = D ∧ ∀ k, k < s → ac k = nI (o k) ∧ d k ≤ k ∧ ((o k = 1 ∧ v k < 10000 ∧ wi k = nI (v k) ∧ st k = nI (v k) ∧ d (k + 1) = d k + 1) ∨ (o k = 2 ∧ v k < 3 ∧ wi k = nI (v k) ∧ st k = nI (10000 + v k) ∧ d (k + 1) = d k + 1) ∨ (o k = 3 ∧ st k = nI 20033 ∧ 1 ≤ d k ∧ d (k + 1) = d k) ∨ (bop (o k) ∧ st k = nI (20000 + o k) ∧ 2 ≤ d k ∧ d (k + 1) = d k - 1)) := by
  intro s
  induction s with
  | zero => intro D h; exact ⟨fun _ => 0, fun _ => 0, fun _ => 0, rfl, h.symm, fun k hk => absurd hk (Nat.not_lt_zero _)⟩
  | succ s ih =>
    intro D ⟨D0, h1, h2⟩
    obtain ⟨o, v, d, e1, e2, e3⟩ := ih D0 h1
    have hD := Wf_le s D0 h1
    have mkit : ∀ (o1 v1 : Nat), ac s = nI o1 → ((o1 = 1 ∧ v1 < 10000 ∧ wi s = nI v1 ∧ st s = nI v1 ∧ D = D0 + 1) ∨ (o1 = 2 ∧ v1 < 3 ∧ wi s = nI v1 ∧ st s = nI (10000 + v1) ∧ D = D0 + 1) ∨ (o1 = 3 ∧ st s = nI 20033 ∧ 1 ≤ D0 ∧ D = D0) ∨ (bop o1 ∧ st s = nI (20000 + o1) ∧ 2 ≤ D0 ∧ D = D0 - 1)) → ∃ o v d : Nat → Nat, d 0 = 0 ∧ d (s + 1) = D ∧ ∀ k, k < s + 1 → ac k = nI (o k) ∧ d k ≤ k ∧ ((o k = 1 ∧ v k < 10000 ∧ wi k = nI (v k) ∧ st k = nI (v k) ∧ d (k + 1) = d k + 1) ∨ (o k = 2 ∧ v k < 3 ∧ wi k = nI (v k) ∧ st k = nI (10000 + v k) ∧ d (k + 1) = d k + 1) ∨ (o k = 3 ∧ st k = nI 20033 ∧ 1 ≤ d k ∧ d (k + 1) = d k) ∨ (bop (o k) ∧ st k = nI (20000 + o k) ∧ 2 ≤ d k ∧ d (k + 1) = d k - 1)) := by
      intro o1 v1 ha hc
      refine ⟨fun k => if k = s then o1 else o k, fun k => if k = s then v1 else v k, fun k => if k = s + 1 then D else d k, ?_, ?_, fun k hk => ?_⟩
      · show (if 0 = s + 1 then D else d 0) = 0
        rw [if_neg (by omega)]; exact e1
      · show (if s + 1 = s + 1 then D else d (s + 1)) = D
        exact if_pos rfl
      · dsimp only
        by_cases q : k = s
        · subst q
          rw [if_pos rfl, if_pos rfl, if_pos rfl, if_neg (show ¬ k = k + 1 by omega), e2]
          exact ⟨ha, hD, hc⟩
        · rw [if_neg q, if_neg q, if_neg (show ¬ k = s + 1 by omega), if_neg (show ¬ k + 1 = s + 1 by omega)]
          exact e3 k (by omega)
    rcases h2 with ⟨g1, ⟨v1, g2, g3, g4⟩, g5⟩ | ⟨g1, ⟨v1, g2, g3, g4⟩, g5⟩ | ⟨g1, g2, g3, g4⟩ | ⟨⟨op, g1, g2, g3⟩, g4, g5⟩
    · exact mkit 1 v1 g1 (Or.inl ⟨rfl, g2, g3, g4, g5⟩)
    · exact mkit 2 v1 g1 (Or.inr (Or.inl ⟨rfl, g2, g3, g4, g5⟩))
    · exact mkit 3 0 g1 (Or.inr (Or.inr (Or.inl ⟨rfl, g2, g3, g4⟩)))
    · exact mkit op 0 g2 (Or.inr (Or.inr (Or.inr ⟨g1, g3, g4, g5⟩)))
theorem t_emitI {s : Nat} {x : Int32} {st : Nat → Int32} (hs : s < 60) : s_TextReader_emit x st (nI s) = some (upd st s x, nI (s + 1)) := by
  unfold s_TextReader_emit
  rw [if_neg (show ¬ (60 : Int32) ≤ nI s from nI_ge (b := 60) hs (by omega)), p_chk hs (by omega), nI_clamp (by omega), nI_1]
theorem t_emitF {s : Nat} {x : Int32} {st : Nat → Int32} (hs : s ≤ 60) : ∃ st' s', s' ≤ 60 ∧ s_TextReader_emit x st (nI s) = some (st', nI s') := by
  by_cases c : s < 60
  · exact ⟨_, s + 1, by omega, t_emitI c⟩
  · unfold s_TextReader_emit
    rw [if_pos (show (60 : Int32) ≤ nI s from nI_le (a := 60) (by omega) (by omega))]
    exact ⟨st, s, hs, rfl⟩
theorem t_stepI {s : Nat} {x y : Int32} {ac wi : Nat → Int32} (hs : s < 60) : s_M_step x y ac wi (nI s) = some (upd ac s x, upd wi s y, nI (s + 1)) := by
  unfold s_M_step
  rw [if_neg (show ¬ (60 : Int32) ≤ nI s from nI_ge (b := 60) hs (by omega)), p_chk hs (by omega), p_chk hs (by omega), nI_clamp (by omega), nI_1]
theorem t_stepF {s : Nat} {x y : Int32} {ac wi : Nat → Int32} (hs : s ≤ 60) : ∃ ac' wi' s', s' ≤ 60 ∧ s_M_step x y ac wi (nI s) = some (ac', wi', nI s') := by
  by_cases c : s < 60
  · exact ⟨_, _, s + 1, by omega, t_stepI c⟩
  · unfold s_M_step
    rw [if_pos (show (60 : Int32) ≤ nI s from nI_le (a := 60) (by omega) (by omega))]
    exact ⟨ac, wi, s, hs, rfl⟩
def TpC (L : Nat) (bytes R : Nat → Int32) : Prop := L ≤ 60 ∧ R 3 = nI L ∧ ∀ i, i < L → ∃ b, b < 256 ∧ bytes i &&& 255 = nI b ∧ R (71 + i) = nI b
def sg (L : Nat) (R : Nat → Int32) (p : Nat) : Int32 := if p < L then R (71 + p) else -1
theorem t_sgX {L : Nat} {bytes R : Nat → Int32} (h : TpC L bytes R) {p : Nat} (hp : p ≤ 60) : s_TextReader_sign bytes (nI L) (nI p) = some (sg L R p) := by
  have hL := h.1
  unfold s_TextReader_sign sg
  rw [if_neg (p_nlt0 (by omega))]
  by_cases c : p < L
  · obtain ⟨b, b1, b2, b3⟩ := h.2.2 p c
    rw [if_neg (nI_ge c (by omega)), if_neg (show ¬ (60 : Int32) ≤ nI p from nI_ge (b := 60) (by omega) (by omega)), p_chk (by omega) (by omega), nI_clamp (by omega), if_pos c, b2, b3]
  · rw [if_pos (nI_le (by omega) (by omega)), if_neg c]
theorem t_sgM {L : Nat} {bytes R : Nat → Int32} (h : TpC L bytes R) {p : Nat} (hp : p ≤ 60) : s_M_look R (nI p) = some (sg L R p) := by
  have hL := h.1
  unfold s_M_look sg
  rw [show (3 : Int32).toNatClampNeg = 3 from rfl, h.2.1]
  by_cases c : p < L
  · rw [if_neg (nI_ge c (by omega)), show (71 : Int32) + nI p = nI (71 + p) from nI_add 71 p, p_chk (by omega) (by omega), nI_clamp (by omega), if_pos c]
  · rw [if_pos (nI_le (by omega) (by omega)), if_neg c]
theorem t_sgb {L : Nat} {bytes R : Nat → Int32} (h : TpC L bytes R) (p : Nat) : (sg L R p = -1 ∧ L ≤ p) ∨ ∃ b, b < 256 ∧ sg L R p = nI b ∧ p < L := by
  unfold sg
  by_cases c : p < L
  · obtain ⟨b, b1, b2, b3⟩ := h.2.2 p c
    rw [if_pos c]
    exact Or.inr ⟨b, b1, b3, c⟩
  · rw [if_neg c]
    exact Or.inl ⟨rfl, by omega⟩
theorem t_dig (x : Int32) : s_M_in x 48 57 = s_TextReader_isDigit x := rfl
theorem t_digN : ∀ b, b < 256 → s_TextReader_isDigit (nI b) = some (if 48 ≤ b ∧ b ≤ 57 then 1 else 0) := by decide +kernel
theorem t_dig1 : s_TextReader_isDigit (-1) = some 0 := by decide +kernel
def nm (u b : Nat) : Nat := if u = 0 then (if b = 104 then 0 else if b = 100 then 1 else if b = 110 then 2 else 99) else (if b = 102 then 0 else if b = 109 then 1 else if b = 107 then 2 else 99)
theorem t_nmX : ∀ u, u < 2 → ∀ b, b < 256 → s_TextReader_nameOf (nI b) (nI u) = some (if nm u b < 3 then nI (nm u b) else -1) := by decide +kernel
theorem t_nmM : ∀ u, u < 2 → ∀ b, b < 256 → s_M_nameOf (nI b) (nI u) = some (if nm u b < 3 then nI (nm u b) else -1) := by decide +kernel
theorem t_nm1 : ∀ u, u < 2 → s_TextReader_nameOf (-1) (nI u) = some (-1) ∧ s_M_nameOf (-1) (nI u) = some (-1) := by decide +kernel
theorem t_nm0 : ∀ u, u < 2 → ∀ b, b < 256 → ((48 ≤ b ∧ b ≤ 57) ∨ b = 33 ∨ b = 40) → ¬ nm u b < 3 := by decide +kernel
theorem t_num {L : Nat} {bytes R : Nat → Int32} (h : TpC L bytes R) {st ac wi : Nat → Int32} {cn la : Int32} : ∀ (fuel fuel' q i v p : Nat), i + q = 4 → q < fuel → q < fuel' → v < 10 ^ i → p ≤ L → ∃ v' p' i', v' < 10000 ∧ p ≤ p' ∧ p' ≤ L ∧ i' + p = i + p' ∧ i' ≤ 4 ∧ s_TextReader_readNumber_c4 st cn bytes (nI L) fuel (nI v) (nI i) (nI p) = s_TextReader_readNumber_c48 (nI v') st cn (nI p') ∧ s_M_number_c4 R ac wi la fuel' (nI v) (nI i) (nI p) = s_M_number_c52 (nI v') (nI i') ac wi la (nI p') ∧ (i = 0 → s_TextReader_isDigit (sg L R p) = some 1 → 1 ≤ i') := by
  have hL := h.1
  intro fuel
  induction fuel with
  | zero => intro fuel' q i v p _ h; exact absurd h (Nat.not_lt_zero _)
  | succ fuel ih =>
    intro fuel' q i v p hq hf hf' hv hp
    cases fuel' with
    | zero => exact absurd hf' (Nat.not_lt_zero _)
    | succ fuel' =>
    have hv4 : v < 10000 := Nat.lt_of_lt_of_le hv (Nat.pow_le_pow_right (by decide) (show i ≤ 4 by omega))
    rw [s_TextReader_readNumber_c4, s_M_number_c4]
    cases q with
    | zero =>
      rw [if_pos (show (4 : Int32) ≤ nI i from nI_le (a := 4) (by omega) (by omega)), if_pos (show (4 : Int32) ≤ nI i from nI_le (a := 4) (by omega) (by omega))]
      exact ⟨v, p, i, hv4, Nat.le_refl _, hp, rfl, by omega, rfl, rfl, fun z => absurd z (by omega)⟩
    | succ q =>
      rw [if_neg (show ¬ (4 : Int32) ≤ nI i from nI_ge (b := 4) (by omega) (by omega)), if_neg (show ¬ (4 : Int32) ≤ nI i from nI_ge (b := 4) (by omega) (by omega)), t_sgX h (by omega), t_sgM h (by omega)]
      simp only [p_b1, t_dig]
      have stop : s_TextReader_isDigit (sg L R p) = some 0 → ∃ v' p' i', v' < 10000 ∧ p ≤ p' ∧ p' ≤ L ∧ i' + p = i + p' ∧ i' ≤ 4 ∧ (j_b1 (s_TextReader_isDigit (sg L R p)) (fun r4 => if r4 = 0 then (s_TextReader_readNumber_c48 (nI v) st cn (nI p)) else (s_TextReader_readNumber_c4 st cn bytes (nI L) fuel (((nI v * (10 : Int32)) + sg L R p) - (48 : Int32)) (nI i + (1 : Int32)) (nI p + (1 : Int32))))) = s_TextReader_readNumber_c48 (nI v') st cn (nI p') ∧ (j_b1 (s_TextReader_isDigit (sg L R p)) (fun r5 => if r5 = 0 then (s_M_number_c52 (nI v) (nI i) ac wi la (nI p)) else (s_M_number_c4 R ac wi la fuel' ((((10 : Int32) * nI v) + sg L R p) - (48 : Int32)) (nI i + (1 : Int32)) (nI p + (1 : Int32))))) = s_M_number_c52 (nI v') (nI i') ac wi la (nI p') ∧ (i = 0 → s_TextReader_isDigit (sg L R p) = some 1 → 1 ≤ i') := by
        intro z
        rw [z, p_b1, p_b1, if_pos rfl, if_pos rfl]
        exact ⟨v, p, i, hv4, Nat.le_refl _, hp, rfl, by omega, rfl, rfl, fun _ y => by cases y⟩
      rcases t_sgb h p with ⟨e1, e2⟩ | ⟨b, b1, b2, b3⟩
      · exact stop (by rw [e1]; exact t_dig1)
      · have hd := t_digN b b1
        by_cases c : 48 ≤ b ∧ b ≤ 57
        · rw [if_pos c] at hd
          rw [b2, hd, p_b1, p_b1, if_neg (show ¬ (1 : Int32) = 0 by decide), if_neg (show ¬ (1 : Int32) = 0 by decide), nI_1, nI_1, show ((nI v * (10 : Int32)) + nI b) - (48 : Int32) = nI (10 * v + b - 48) from by rw [p_lit 10, pk_mul, nI_add, show (48 : Int32) = nI 48 from rfl, pk_sub (by omega), Nat.mul_comm], show (((10 : Int32) * nI v) + nI b) - (48 : Int32) = nI (10 * v + b - 48) from by rw [p_lit 10, pk_mul, nI_add, show (48 : Int32) = nI 48 from rfl, pk_sub (by omega)]]
          obtain ⟨v', p', i', g1, g2, g3, g4, g5, g6, g7, -⟩ := ih fuel' q (i + 1) (10 * v + b - 48) (p + 1) (by omega) (by omega) (by omega) (by rw [Nat.pow_succ]; omega) (by omega)
          exact ⟨v', p', i', g1, by omega, g3, by omega, g5, g6, g7, fun _ _ => by omega⟩
        · rw [if_neg c] at hd
          exact stop (by rw [b2]; exact hd)
