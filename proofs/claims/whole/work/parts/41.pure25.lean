/-! pure 27: voices -/
def TrS (j : Nat) (f f2 : Nat → Int32) : Prop := j ≤ 30 ∧ ∀ i, i < j → f i = f2 i
theorem v_begin {b j : Nat} {f f2 : Nat → Int32} (h : TrS j f f2) : ∃ j' f' f2', s_Voices_begin (nI b) (nI j) f = some (nI j', f') ∧ s_M_begins (nI b) f2 (nI j) = some (f2', nI j') ∧ TrS j' f' f2' := by
  unfold s_Voices_begin s_M_begins
  by_cases c : 30 ≤ j
  · rw [if_pos (show (30 : Int32) ≤ nI j from nI_le (a := 30) c (by have := h.1; omega)), if_pos (show (30 : Int32) ≤ nI j from nI_le (a := 30) c (by have := h.1; omega))]
    exact ⟨j, f, f2, rfl, rfl, h⟩
  · rw [if_neg (show ¬ (30 : Int32) ≤ nI j from nI_ge (b := 30) (by omega) (by omega)), if_neg (show ¬ (30 : Int32) ≤ nI j from nI_ge (b := 30) (by omega) (by omega)), p_chk (by omega) (by omega), p_chk (by omega) (by omega), nI_clamp (by omega), nI_1]
    refine ⟨j + 1, _, _, rfl, rfl, by omega, fun i hi => ?_⟩
    by_cases q : i = j
    · rw [q, pk_us, pk_us]
    · rw [pk_un q, pk_un q]; exact h.2 i (by omega)
def VR (X : Option (Int32 × Int32 × Int32 × (Nat → Int32))) (Y : Option (Int32 × (Nat → Int32) × Int32)) : Prop := ∃ r j f f2, X = some (r, 0, nI j, f) ∧ Y = some (r, f2, nI j) ∧ TrS j f f2
theorem VR_map {X : Option (Int32 × Int32 × Int32 × (Nat → Int32))} {Y : Option (Int32 × (Nat → Int32) × Int32)} (g : Int32 → Int32) (h : VR X Y) : VR (j_b4 X (fun r p t f => some (g r, p, t, f))) (j_b3 Y (fun r f j => some (g r, f, j))) := by
  obtain ⟨r, j, f, f2, e1, e2, e3⟩ := h
  rw [e1, e2]
  exact ⟨g r, j, f, f2, rfl, rfl, e3⟩
theorem VR_m {X : Option (Int32 × Int32 × Int32 × (Nat → Int32))} {Y : Option (Int32 × (Nat → Int32) × Int32)} (h : VR X Y) : VR X (j_b3 Y (fun r f j => some (r, f, j))) := by
  obtain ⟨r, j, f, f2, e1, e2, e3⟩ := h
  rw [e1, e2]
  exact ⟨r, j, f, f2, rfl, rfl, e3⟩
theorem VR_begin {b j : Nat} {f f2 : Nat → Int32} {X : Int32 → (Nat → Int32) → Option (Int32 × Int32 × Int32 × (Nat → Int32))} {Y : (Nat → Int32) → Int32 → Option (Int32 × (Nat → Int32) × Int32)} (hT : TrS j f f2) (h : ∀ j f f2, TrS j f f2 → VR (X (nI j) f) (Y f2 (nI j))) : VR (j_b2 (s_Voices_begin (nI b) (nI j) f) X) (j_b2 (s_M_begins (nI b) f2 (nI j)) Y) := by
  obtain ⟨j', f', f2', e1, e2, e3⟩ := v_begin (b := b) hT
  rw [e1, e2]
  exact h j' f' f2' e3
def vbd (d b a : Nat) (x : Int32) (dep : Nat) (tr : Int32) (f : Nat → Int32) (kd nu m : Int32) : Option (Int32 × Int32 × Int32 × (Nat → Int32)) := j_b2 (s_Voices_begin (nI b) tr f) (fun tr f => s_Voices_run d (nI b) (nI a) x (nI dep) 0 tr f kd nu m)
def bdT (k v : Nat) : Nat := ([10, 11, 12, 13, 20, 0, 0, 21, 0, 30, 0, 0, 0, 0, 40, 0, 50, 0, 51, 0, 0, 60, 0, 0, 70, 71, 0, 0][4 * k + v]?).getD 0
def abT (k : Nat) : Nat := if k = 4 then 1 else if k = 5 then 2 else 0
def bdA (k v : Nat) : Nat := if bdT k v = 0 then (if bdT (abT k) v = 0 then 0 else abT k) else k
theorem v_body : ∀ k, k < 7 → ∀ v, v < 4 → s_Voices_bodyOf (nI k) (nI v) = some (nI (bdT k v)) := by decide +kernel
theorem v_above : ∀ k, k < 7 → 0 < k → s_Kinds_above (nI k) = some (nI (abT k)) := by decide +kernel
theorem v_tab1 : ∀ k, k < 7 → ∀ v, v < 4 → abT k < 7 ∧ bdT k v < 100 ∧ (0 < bdT k v ∨ 0 < k) := by decide +kernel
theorem v_tab2 : ∀ k, k < 7 → ∀ v, v < 4 → 0 < bdT k v ∨ 0 < bdT (abT k) v ∨ (0 < abT k ∧ 0 < bdT 0 v ∧ abT (abT k) = 0) := by decide +kernel
theorem v_tab (k : Nat) (hk : k < 7) (v : Nat) (hv : v < 4) : abT k < 7 ∧ bdT k v < 100 ∧ (bdT k v = 0 → 0 < k) ∧ (bdT k v = 0 → bdT (abT k) v = 0 → 0 < abT k ∧ bdT 0 v ≠ 0 ∧ abT (abT k) = 0) := by
  have h1 := v_tab1 k hk v hv
  have h2 := v_tab2 k hk v hv
  exact ⟨h1.1, h1.2.1, fun z => by omega, fun z z2 => by omega⟩
theorem v_c51 {gr : Int32 → Int32 → Int32 → Int32 → Int32 → Int32 → (Nat → Int32) → Int32 → Int32 → Int32 → (Option (Int32 × Int32 × Int32 × (Nat → Int32)))} {k v : Nat} (hk : k < 7) (hv : v < 4) (x : Int32) (dep : Nat) (p tr : Int32) (f : Nat → Int32) (kd nu m : Int32) : s_Voices_sound_c51 gr (nI v) x (nI dep) (nI k) p tr f kd nu m = j_b2 (s_Voices_begin (nI (bdT k v)) tr f) (fun tr f => gr (nI (bdT k v)) (nI k) x (nI (dep + 1)) p tr f kd nu m) := by
  unfold s_Voices_sound_c51
  rw [v_body k hk v hv, p_b1, nI_1]
  congr 1
  funext tr f
  rw [p_b1]
  cases gr (nI (bdT k v)) (nI k) x (nI (dep + 1)) p tr f kd nu m with
  | none => rfl
  | some q => rfl
theorem v_c22a {gr : Int32 → Int32 → Int32 → Int32 → Int32 → Int32 → (Nat → Int32) → Int32 → Int32 → Int32 → (Option (Int32 × Int32 × Int32 × (Nat → Int32)))} {k v i n : Nat} (hk : k < 7) (hv : v < 4) (hi : i < 7) (hb : ¬ bdT k v = 0) (x : Int32) (dep : Nat) (p tr : Int32) (f : Nat → Int32) (kd nu m : Int32) : s_Voices_sound_c22 gr (nI v) x (nI dep) p tr f kd nu m (n + 1) (nI k) (nI i) = s_Voices_sound_c51 gr (nI v) x (nI dep) (nI k) p tr f kd nu m := by
  have h1 := (v_tab k hk v hv).2.1
  rw [s_Voices_sound_c22, if_neg (show ¬ (7 : Int32) ≤ nI i from nI_ge (b := 7) hi (by omega)), v_body k hk v hv, p_b1, if_neg (fun z => hb ((nI_eq (by omega) (by omega)).mp (z.trans (show (0 : Int32) = nI 0 from rfl))))]
theorem v_c22b {gr : Int32 → Int32 → Int32 → Int32 → Int32 → Int32 → (Nat → Int32) → Int32 → Int32 → Int32 → (Option (Int32 × Int32 × Int32 × (Nat → Int32)))} {k v i n : Nat} (hk : k < 7) (hv : v < 4) (hi : i < 7) (hb : bdT k v = 0) (x : Int32) (dep : Nat) (p tr : Int32) (f : Nat → Int32) (kd nu m : Int32) : s_Voices_sound_c22 gr (nI v) x (nI dep) p tr f kd nu m (n + 1) (nI k) (nI i) = s_Voices_sound_c22 gr (nI v) x (nI dep) p tr f kd nu m n (nI (abT k)) (nI (i + 1)) := by
  rw [s_Voices_sound_c22, if_neg (show ¬ (7 : Int32) ≤ nI i from nI_ge (b := 7) hi (by omega)), v_body k hk v hv, p_b1, hb, if_pos (show nI 0 = 0 from rfl), v_above k hk ((v_tab k hk v hv).2.2.1 hb), p_b1, nI_1]
theorem v_sound {d k v dep : Nat} (hk : k < 7) (hv : v < 4) (hd : dep ≤ 12) (x tr : Int32) (f : Nat → Int32) (kd nu m : Int32) : s_Voices_sound (d + 1) (nI k) (nI v) x (nI dep) 0 tr f kd nu m = vbd d (bdT (bdA k v) v) (bdA k v) x (dep + 1) tr f kd nu m := by
  obtain ⟨t1, t2, t3, t4⟩ := v_tab k hk v hv
  rw [s_Voices_sound_succ]
  unfold so_Voices_sound vbd bdA
  rw [if_pos rfl, if_pos (show nI dep ≤ (12 : Int32) from nI_le (b := 12) hd (by omega)), show (0 : Int32) = nI 0 from rfl]
  by_cases c : bdT k v = 0
  · rw [if_pos c, v_c22b hk hv (by omega) c]
    by_cases c2 : bdT (abT k) v = 0
    · obtain ⟨t5, t6, t7⟩ := t4 c c2
      rw [if_pos c2, v_c22b t1 hv (by omega) c2, t7, v_c22a (by omega) hv (by omega) t6, v_c51 (by omega) hv]
    · rw [if_neg c2, v_c22a t1 hv (by omega) c2, v_c51 t1 hv]
  · rw [if_neg c, v_c22a hk hv (by omega) c, v_c51 hk hv]
section
variable {gs gr : Int32 → Int32 → Int32 → Int32 → Int32 → Int32 → (Nat → Int32) → Int32 → Int32 → Int32 → (Option (Int32 × Int32 × Int32 × (Nat → Int32)))} {x dp pt tr : Int32} {f : Nat → Int32} {kd nu m : Int32}
theorem v_run10 : so_Voices_run gs gr (nI 10) (nI 0) x dp pt tr f kd nu m = some (x + nu, pt, tr, f) := by
  unfold so_Voices_run
  rw [show s_Kinds_above (nI 0) = some (-1) from by decide +kernel, p_b1]
  rfl
theorem v_run11 : so_Voices_run gs gr (nI 11) (nI 0) x dp pt tr f kd nu m = j_b4 (gs kd (nI 0) x dp pt tr f kd nu m) (fun r p t f => some (r * 2, p, t, f)) := by
  unfold so_Voices_run
  rw [show s_Kinds_above (nI 0) = some (-1) from by decide +kernel, p_b1]
  rfl
theorem v_run12 : so_Voices_run gs gr (nI 12) (nI 0) x dp pt tr f kd nu m = j_b4 (gs kd (nI 1) x dp pt tr f kd nu m) (fun r p t f => some (r - m, p, t, f)) := by
  unfold so_Voices_run
  rw [show s_Kinds_above (nI 0) = some (-1) from by decide +kernel, p_b1]
  rfl
theorem v_run13 : so_Voices_run gs gr (nI 13) (nI 0) x dp pt tr f kd nu m = j_b2 (s_Voices_partsOf x pt nu m) (fun r p => some (r, p, tr, f)) := by
  unfold so_Voices_run
  rw [show s_Kinds_above (nI 0) = some (-1) from by decide +kernel, p_b1]
  rfl
theorem v_run20 : so_Voices_run gs gr (nI 20) (nI 1) x dp pt tr f kd nu m = j_b4 (gs (nI 0) (nI 0) x dp pt tr f kd nu m) (fun r p t f => some (r - 4, p, t, f)) := by
  unfold so_Voices_run
  rw [v_above 1 (by omega) (by omega), p_b1]
  rfl
theorem v_run21 : so_Voices_run gs gr (nI 21) (nI 1) x dp pt tr f kd nu m = j_b4 (gs (nI 0) (nI 3) x dp pt tr f kd nu m) (fun r p t f => j_b4 (gs kd (nI 1) (nI 1) dp p t f kd nu m) (fun r1 p t f => some (r + r1, p, t, f))) := by
  unfold so_Voices_run
  rw [v_above 1 (by omega) (by omega), p_b1]
  rfl
theorem v_run30 : so_Voices_run gs gr (nI 30) (nI 2) x dp pt tr f kd nu m = j_b4 (gs (nI 0) (nI 1) x dp pt tr f kd nu m) (fun r p t f => some (0 - r, p, t, f)) := by
  unfold so_Voices_run
  rw [v_above 2 (by omega) (by omega), p_b1]
  rfl
theorem v_run40 : so_Voices_run gs gr (nI 40) (nI 3) x dp pt tr f kd nu m = j_b4 (gs (nI 0) (nI 2) (x / 2) dp pt tr f kd nu m) (fun r p t f => some (r, p, t, f)) := by
  unfold so_Voices_run
  rw [v_above 3 (by omega) (by omega), p_b1]
  rfl
theorem v_run50 : so_Voices_run gs gr (nI 50) (nI 4) x dp pt tr f kd nu m = j_b4 (gs (nI 1) (nI 0) x dp pt tr f kd nu m) (fun r p t f => some (r * 3, p, t, f)) := by
  unfold so_Voices_run
  rw [v_above 4 (by omega) (by omega), p_b1]
  rfl
theorem v_run51 : so_Voices_run gs gr (nI 51) (nI 4) x dp pt tr f kd nu m = j_b4 (gs (nI 1) (nI 2) x dp pt tr f kd nu m) (fun r p t f => some (r ^^^ nu, p, t, f)) := by
  unfold so_Voices_run
  rw [v_above 4 (by omega) (by omega), p_b1]
  rfl
theorem v_run60 : so_Voices_run gs gr (nI 60) (nI 5) x dp pt tr f kd nu m = j_b4 (gs (nI 2) (nI 1) (x + 1) dp pt tr f kd nu m) (fun r p t f => some (r, p, t, f)) := by
  unfold so_Voices_run
  rw [v_above 5 (by omega) (by omega), p_b1]
  rfl
theorem v_run70 : so_Voices_run gs gr (nI 70) (nI 6) x dp pt tr f kd nu m = some (9, pt, tr, f) := by
  unfold so_Voices_run
  rw [v_above 6 (by omega) (by omega), p_b1]
  rfl
theorem v_run71 : so_Voices_run gs gr (nI 71) (nI 6) x dp pt tr f kd nu m = j_b4 (gs (nI 0) (nI 1) x dp pt tr f kd nu m) (fun r p t f => some (r + m, p, t, f)) := by
  unfold so_Voices_run
  rw [v_above 6 (by omega) (by omega), p_b1]
  rfl
end
theorem v10 {d t dep j : Nat} {x kd m : Int32} {f f2 : Nat → Int32} (h : TrS j f f2) : VR (vbd (d + 1) 10 0 x dep (nI j) f kd (nI t) m) (s_M_plainCreaks (nI t) x f2 (nI j)) := by
  unfold vbd s_M_plainCreaks
  refine VR_begin h (fun j f f2 h => ?_)
  rw [s_Voices_run_succ, v_run10]
  exact ⟨_, j, f, f2, rfl, rfl, h⟩
theorem v20 {d t dep j : Nat} {x kd m : Int32} {f f2 : Nat → Int32} (hd : dep ≤ 12) (h : TrS j f f2) : VR (vbd (d + 3) 20 1 x dep (nI j) f kd (nI t) m) (s_M_rollerCreaks (nI t) x f2 (nI j)) := by
  unfold vbd s_M_rollerCreaks
  refine VR_begin h (fun j f f2 h => ?_)
  rw [s_Voices_run_succ, v_run20, v_sound (by omega) (by omega) hd]
  exact VR_map (fun r => r - 4) (v10 h)
/-- what M knows of the thing -/
def VK (t K : Nat) (m : Int32) (R : Nat → Int32) : Prop := t < 6 ∧ K < 7 ∧ R (41 + 5 * t) = nI K ∧ R (42 + 5 * t) = m
theorem VK_k {t K : Nat} {m : Int32} {R : Nat → Int32} (h : VK t K m R) : s_M_of (nI t) 0 R = some (nI K) := by
  rw [show (0 : Int32) = nI 0 from rfl, p_of h.1 (by omega), Nat.add_zero, h.2.2.1]
theorem VK_m {t K : Nat} {m : Int32} {R : Nat → Int32} (h : VK t K m R) : s_M_of (nI t) 1 R = some m := by
  rw [show (1 : Int32) = nI 1 from rfl, p_of h.1 (by omega), show 41 + 5 * t + 1 = 42 + 5 * t by omega, h.2.2.2]
theorem k7 {K : Nat} (h : K < 7) : K = 0 ∨ K = 1 ∨ K = 2 ∨ K = 3 ∨ K = 4 ∨ K = 5 ∨ K = 6 := by omega
theorem v_creaks {d t K dep j : Nat} {x m : Int32} {R f f2 : Nat → Int32} (hk : VK t K m R) (hd : dep + 2 ≤ 12) (h : TrS j f f2) : VR (s_Voices_sound (d + 6) (nI K) (nI 0) x (nI dep) 0 (nI j) f (nI K) (nI t) m) (s_M_creaks (nI t) x R f2 (nI j)) := by
  have hK := hk.2.1
  unfold s_M_creaks
  rw [v_sound hK (by omega) (by omega), VK_k hk, p_b1]
  rcases k7 hK with rfl | rfl | rfl | rfl | rfl | rfl | rfl
  · exact VR_m (v10 h)
  · exact VR_m (v20 (by omega) h)
  · exact VR_m (v10 h)
  · exact VR_m (v10 h)
  · refine VR_begin h (fun j f f2 h => ?_)
    show VR (s_Voices_run (d + 5) (nI 50) (nI 4) x (nI (dep + 1)) 0 (nI j) f (nI 4) (nI t) m) _
    rw [s_Voices_run_succ, v_run50, v_sound (by omega) (by omega) (by omega)]
    exact VR_map (fun r => r * 3) (v20 (by omega) h)
  · exact VR_m (v10 h)
  · refine VR_begin h (fun j f f2 h => ?_)
    show VR (s_Voices_run (d + 5) (nI 70) (nI 6) x (nI (dep + 1)) 0 (nI j) f (nI 6) (nI t) m) _
    rw [s_Voices_run_succ, v_run70]
    exact ⟨_, j, f, f2, rfl, rfl, h⟩
theorem v11 {d t K dep j : Nat} {x m : Int32} {R f f2 : Nat → Int32} (hk : VK t K m R) (hd : dep + 2 ≤ 12) (h : TrS j f f2) : VR (vbd (d + 7) 11 0 x dep (nI j) f (nI K) (nI t) m) (s_M_plainRattles (nI t) x R f2 (nI j)) := by
  unfold vbd s_M_plainRattles
  refine VR_begin h (fun j f f2 h => ?_)
  rw [s_Voices_run_succ, v_run11]
  exact VR_map (fun r => r * 2) (v_creaks hk hd h)
theorem v30 {d t K dep j : Nat} {x m : Int32} {R f f2 : Nat → Int32} (hk : VK t K m R) (hd : dep + 3 ≤ 12) (h : TrS j f f2) : VR (vbd (d + 9) 30 2 x dep (nI j) f (nI K) (nI t) m) (s_M_screwedRattles (nI t) x R f2 (nI j)) := by
  unfold vbd s_M_screwedRattles
  refine VR_begin h (fun j f f2 h => ?_)
  rw [s_Voices_run_succ, v_run30, v_sound (by omega) (by omega) (by omega)]
  have := VR_map (fun r => 0 - r) (v11 (d := d) (x := x) (dep := dep + 1) hk (by omega) h)
  rw [show (fun (r : Int32) (f : Nat → Int32) (j : Int32) => some (-r, f, j)) = (fun (r : Int32) (f : Nat → Int32) (j : Int32) => some (0 - r, f, j)) from by funext r f j; rw [Int32.zero_sub]]
  exact this
theorem v_rattles {d t K dep j : Nat} {x m : Int32} {R f f2 : Nat → Int32} (hk : VK t K m R) (hd : dep + 5 ≤ 12) (h : TrS j f f2) : VR (s_Voices_sound (d + 12) (nI K) (nI 1) x (nI dep) 0 (nI j) f (nI K) (nI t) m) (s_M_rattles (nI t) x R f2 (nI j)) := by
  have hK := hk.2.1
  unfold s_M_rattles s_M_rattles_c82
  rw [v_sound hK (by omega) (by omega), VK_k hk, p_b1, VK_m hk]
  rcases k7 hK with rfl | rfl | rfl | rfl | rfl | rfl | rfl
  · exact VR_m (v11 hk (by omega) h)
  · exact VR_m (v11 hk (by omega) h)
  · exact VR_m (v30 hk (by omega) h)
  · exact VR_m (v11 hk (by omega) h)
  · exact VR_m (v11 hk (by omega) h)
  · refine VR_begin h (fun j f f2 h => ?_)
    show VR (s_Voices_run (d + 11) (nI 60) (nI 5) x (nI (dep + 1)) 0 (nI j) f (nI 5) (nI t) m) _
    rw [s_Voices_run_succ, v_run60, v_sound (by omega) (by omega) (by omega)]
    exact VR_map (fun r => r) (v30 hk (by omega) h)
  · refine VR_begin h (fun j f f2 h => ?_)
    show VR (s_Voices_run (d + 11) (nI 71) (nI 6) x (nI (dep + 1)) 0 (nI j) f (nI 6) (nI t) m) _
    rw [s_Voices_run_succ, v_run71, v_sound (by omega) (by omega) (by omega)]
    exact VR_map (fun r => r + m) (v11 hk (by omega) h)
theorem v12 {d t K dep j : Nat} {x m : Int32} {R f f2 : Nat → Int32} (hk : VK t K m R) (hd : dep + 5 ≤ 12) (h : TrS j f f2) : VR (vbd (d + 13) 12 0 x dep (nI j) f (nI K) (nI t) m) (s_M_plainGroans (nI t) x R f2 (nI j)) := by
  unfold vbd s_M_plainGroans
  refine VR_begin h (fun j f f2 h => ?_)
  rw [s_Voices_run_succ, v_run12, VK_m hk]
  exact VR_map (fun r => r - m) (v_rattles hk hd h)
theorem v_groans {d t K dep j : Nat} {x m : Int32} {R f f2 : Nat → Int32} (hk : VK t K m R) (hd : dep + 7 ≤ 12) (h : TrS j f f2) : VR (s_Voices_sound (d + 16) (nI K) (nI 2) x (nI dep) 0 (nI j) f (nI K) (nI t) m) (s_M_groans (nI t) x R f2 (nI j)) := by
  have hK := hk.2.1
  unfold s_M_groans
  rw [v_sound hK (by omega) (by omega), VK_k hk, p_b1]
  rcases k7 hK with rfl | rfl | rfl | rfl | rfl | rfl | rfl
  · exact VR_m (v12 hk (by omega) h)
  · exact VR_m (v12 hk (by omega) h)
  · exact VR_m (v12 hk (by omega) h)
  · refine VR_begin h (fun j f f2 h => ?_)
    show VR (s_Voices_run (d + 15) (nI 40) (nI 3) x (nI (dep + 1)) 0 (nI j) f (nI 3) (nI t) m) _
    rw [s_Voices_run_succ, v_run40, v_sound (by omega) (by omega) (by omega)]
    exact VR_map (fun r => r) (v12 hk (by omega) h)
  · refine VR_begin h (fun j f f2 h => ?_)
    show VR (s_Voices_run (d + 15) (nI 51) (nI 4) x (nI (dep + 1)) 0 (nI j) f (nI 4) (nI t) m) _
    rw [s_Voices_run_succ, v_run51, v_sound (by omega) (by omega) (by omega)]
    exact VR_map (fun r => r ^^^ nI t) (v12 hk (by omega) h)
  · exact VR_m (v12 hk (by omega) h)
  · exact VR_m (v12 hk (by omega) h)
