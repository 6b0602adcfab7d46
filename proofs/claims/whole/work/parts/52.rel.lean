/-! the relation of the two programs' states -/
theorem RTh_fr {kind m cell broken fell : Nat → Int32} {count : Int32} {taken walls : Int64} {R R' : Nat → Int32} (h : RTh kind m cell broken fell count taken walls R) (hR : ∀ j, j = 2 ∨ (5 ≤ j ∧ j < 71) → R' j = R j) : RTh kind m cell broken fell count taken walls R' := by
  obtain ⟨n, K, M, C, h, hb, hf, hu⟩ := h
  obtain ⟨hn, h1, h2, h3, h4, h5, h6, h7, h8, h9⟩ := h
  refine ⟨n, K, M, C, ⟨hn, h1, ?_, fun t ht => ?_, fun t ht => ?_, fun t ht => ?_, h6, h7, h8, fun c hc => ?_⟩, fun u hu1 => ?_, fun u hu1 => ?_, hu⟩
  · rw [hR 2 (by omega)]; exact h2
  · rw [hR (41 + 5 * t) (by omega)]; exact h3 t ht
  · rw [hR (42 + 5 * t) (by omega)]; exact h4 t ht
  · rw [hR (43 + 5 * t) (by omega)]; exact h5 t ht
  · rw [hR (5 + c) (by omega)]; exact h9 c hc
  · rw [hR (44 + 5 * u) (by omega)]; exact hb u hu1
  · rw [hR (45 + 5 * u) (by omega)]; exact hf u hu1
theorem RHr_fr {hour : Int32} {R R' : Nat → Int32} (h : RHr hour R) (hR : R' 0 = R 0) : RHr hour R' := by
  obtain ⟨x, h1, h2, h3⟩ := h
  exact ⟨x, h1, h2, hR.trans h3⟩
theorem RTp_fr {tape : Nat → Int32} {len : Int32} {R R' : Nat → Int32} (h : RTp tape len R) (hR : ∀ j, j = 3 ∨ (71 ≤ j ∧ j < 131) → R' j = R j) : RTp tape len R' := by
  obtain ⟨l, l1, l2, l3, l4⟩ := h
  refine ⟨l, l1, l2, (hR 3 (by omega)).trans l3, fun i hi => ?_⟩
  obtain ⟨y, y1, y2, y3⟩ := l4 i hi
  exact ⟨y, y1, y2, (hR (71 + i) (by omega)).trans y3⟩
theorem RWt_fr {waiting : Nat → Int32} {waits : Int32} {R R' : Nat → Int32} (h : RWt waiting waits R) (hR : ∀ j, j = 4 ∨ (131 ≤ j ∧ j < 155) → R' j = R j) : RWt waiting waits R' := by
  obtain ⟨w, w1, w2, w3, w4⟩ := h
  refine ⟨w, w1, w2, (hR 4 (by omega)).trans w3, fun i hi => ?_⟩
  rw [hR (131 + i) (by omega)]
  exact w4 i hi
theorem RCd_fr {steps : Nat → Int32} {cnt : Int32} {base : Nat} {R R' : Nat → Int32} (h : RCd steps cnt base R) (hR : ∀ j, base ≤ j → j < base + 121 → R' j = R j) : RCd steps cnt base R' := by
  obtain ⟨len, o, v, d, h⟩ := h
  exact ⟨len, o, v, d, CdR_on h hR⟩
theorem RHs_fr {k m c b fl : Nat → Int32} {cn : Int32} {tk : Int64} {tp : Nat → Int32} {wl : Int64} {hr z tl ws : Int32} {ps : Nat → Int32} {pn : Int32} {bs : Nat → Int32} {bn : Int32} {wt R R' : Nat → Int32} (h : RHs k m c b fl cn tk tp wl hr z tl ws ps pn bs bn wt R) (hR : ∀ j, j < 397 → R' j = R j) : RHs k m c b fl cn tk tp wl hr z tl ws ps pn bs bn wt R' := by
  obtain ⟨hT, hh, hz, hp, hw, hc, hb⟩ := h
  exact ⟨RTh_fr hT (fun j hj => hR j (by omega)), RHr_fr hh (hR 0 (by omega)), hz.trans (hR 1 (by omega)).symm, RTp_fr hp (fun j hj => hR j (by omega)), RWt_fr hw (fun j hj => hR j (by omega)), RCd_fr hc (fun j _ _ => hR j (by omega)), RCd_fr hb (fun j _ _ => hR j (by omega))⟩

def wRel (I : Nat → Int32) (J : Nat → Int64) (A : Nat → Nat → Int32) : Prop := RHs (A 0) (A 1) (A 2) (A 3) (A 4) (I 5) (J 1) (A 5) (J 0) (I 1) (I 2) (I 3) (I 4) (A 6) (I 6) (A 8) (I 7) (A 10) (A 36) ∧ (I 0 ≠ 0 → RHs (A 11) (A 12) (A 13) (A 14) (A 15) (I 12) (J 3) (A 16) (J 2) (I 8) (I 9) (I 10) (I 11) (A 17) (I 13) (A 19) (I 14) (A 21) (A 37)) ∧ I 29 = I 0 ∧ RVo (I 25) (A 31) (I 35) (A 47) ∧ RSh (A 32) (A 33) (A 34) (A 44) (A 45) (A 46) ∧ ErR (A 35) (A 39)
theorem rl_wall : rlP_wall wRel := by
  intro I J A h a0 a1
  obtain ⟨hH, hK, hi, hV, hS, hE⟩ := h
  obtain ⟨hT, hh, hz, hp, hw, hc, hb⟩ := id hH
  obtain ⟨r, u_house_walls, u_errors, z_row, z_errors, e1, e2, hT', hE', f⟩ := q_wall hT hE a0 a1
  unfold frT at f
  exact ⟨r, u_house_walls, u_errors, z_row, z_errors, e1, e2, ⟨⟨hT', RHr_fr hh (f 0 (by omega)), hz.trans (f 1 (by omega)).symm, RTp_fr hp (fun j hj => f j (by omega)), RWt_fr hw (fun j hj => f j (by omega)), RCd_fr hc (fun j _ _ => f j (by omega)), RCd_fr hb (fun j _ _ => f j (by omega))⟩, hK, hi, hV, hS, hE'⟩⟩
theorem rl_cellIs : rlP_cellIs wRel := by
  intro I J A h a0 a1
  obtain ⟨hH, hK, hi, hV, hS, hE⟩ := h
  obtain ⟨hT, hh, hz, hp, hw, hc, hb⟩ := id hH
  obtain ⟨r, u_errors, z_errors, e1, e2, hE'⟩ := q_cellIs hT hE a0 a1
  exact ⟨r, u_errors, z_errors, e1, e2, ⟨⟨hT, hh, hz, hp, hw, hc, hb⟩, hK, hi, hV, hS, hE'⟩⟩
theorem rl_thing : rlP_thing wRel := by
  intro I J A h a0 a1
  obtain ⟨hH, hK, hi, hV, hS, hE⟩ := h
  obtain ⟨hT, hh, hz, hp, hw, hc, hb⟩ := id hH
  obtain ⟨r, u_house_things_kind, u_house_things_m, u_house_things_cell, u_house_things_broken, u_house_things_fell, u_house_things_count, u_house_things_taken, u_errors, z_row, z_errors, e1, e2, hT', hE', f⟩ := q_thing hT hE a0 a1
  unfold frT at f
  exact ⟨r, u_house_things_kind, u_house_things_m, u_house_things_cell, u_house_things_broken, u_house_things_fell, u_house_things_count, u_house_things_taken, u_errors, z_row, z_errors, e1, e2, ⟨⟨hT', RHr_fr hh (f 0 (by omega)), hz.trans (f 1 (by omega)).symm, RTp_fr hp (fun j hj => f j (by omega)), RWt_fr hw (fun j hj => f j (by omega)), RCd_fr hc (fun j _ _ => f j (by omega)), RCd_fr hb (fun j _ _ => f j (by omega))⟩, hK, hi, hV, hS, hE'⟩⟩
theorem rl_thingIs : rlP_thingIs wRel := by
  intro I J A h a0 a1
  obtain ⟨hH, hK, hi, hV, hS, hE⟩ := h
  obtain ⟨hT, hh, hz, hp, hw, hc, hb⟩ := id hH
  obtain ⟨r, u_errors, z_errors, e1, e2, hE'⟩ := q_thingIs hT hE a0 a1
  exact ⟨r, u_errors, z_errors, e1, e2, ⟨⟨hT, hh, hz, hp, hw, hc, hb⟩, hK, hi, hV, hS, hE'⟩⟩
theorem rl_become : rlP_become wRel := by
  intro I J A h a0 a1
  obtain ⟨hH, hK, hi, hV, hS, hE⟩ := h
  obtain ⟨hT, hh, hz, hp, hw, hc, hb⟩ := id hH
  obtain ⟨r, u_house_things_kind, u_house_things_m, u_errors, z_row, z_errors, e1, e2, hT', hE', f⟩ := q_become hT hE a0 a1
  unfold frT at f
  exact ⟨r, u_house_things_kind, u_house_things_m, u_errors, z_row, z_errors, e1, e2, ⟨⟨hT', RHr_fr hh (f 0 (by omega)), hz.trans (f 1 (by omega)).symm, RTp_fr hp (fun j hj => f j (by omega)), RWt_fr hw (fun j hj => f j (by omega)), RCd_fr hc (fun j _ _ => f j (by omega)), RCd_fr hb (fun j _ _ => f j (by omega))⟩, hK, hi, hV, hS, hE'⟩⟩
theorem rl_as : rlP_as wRel := by
  intro I J A h a0 a1
  obtain ⟨hH, hK, hi, hV, hS, hE⟩ := h
  obtain ⟨hT, hh, hz, hp, hw, hc, hb⟩ := id hH
  obtain ⟨r, u_errors, z_errors, e1, e2, hE'⟩ := q_as hT hE a0 a1
  exact ⟨r, u_errors, z_errors, e1, e2, ⟨⟨hT, hh, hz, hp, hw, hc, hb⟩, hK, hi, hV, hS, hE'⟩⟩
theorem rl_carry : rlP_carry wRel := by
  intro I J A h a0 a1
  obtain ⟨hH, hK, hi, hV, hS, hE⟩ := h
  obtain ⟨hT, hh, hz, hp, hw, hc, hb⟩ := id hH
  obtain ⟨r, u_house_things_cell, u_house_things_taken, u_errors, z_row, z_errors, e1, e2, hT', hE', f⟩ := q_carry hT hE a0 a1
  unfold frT at f
  exact ⟨r, u_house_things_cell, u_house_things_taken, u_errors, z_row, z_errors, e1, e2, ⟨⟨hT', RHr_fr hh (f 0 (by omega)), hz.trans (f 1 (by omega)).symm, RTp_fr hp (fun j hj => f j (by omega)), RWt_fr hw (fun j hj => f j (by omega)), RCd_fr hc (fun j _ _ => f j (by omega)), RCd_fr hb (fun j _ _ => f j (by omega))⟩, hK, hi, hV, hS, hE'⟩⟩
theorem rl_clock : rlP_clock wRel := by
  intro I J A h a0
  obtain ⟨hH, hK, hi, hV, hS, hE⟩ := h
  obtain ⟨hT, hh, hz, hp, hw, hc, hb⟩ := id hH
  obtain ⟨r, u_house_hour, u_errors, z_row, z_errors, e1, e2, hh', hE', f⟩ := q_clock hh hE a0
  exact ⟨r, u_house_hour, u_errors, z_row, z_errors, e1, e2, ⟨⟨RTh_fr hT (fun j hj => f j (by omega)), hh', hz.trans (f 1 (by omega)).symm, RTp_fr hp (fun j hj => f j (by omega)), RWt_fr hw (fun j hj => f j (by omega)), RCd_fr hc (fun j _ _ => f j (by omega)), RCd_fr hb (fun j _ _ => f j (by omega))⟩, hK, hi, hV, hS, hE'⟩⟩
theorem rl_feed : rlP_feed wRel := by
  intro I J A h a0 a1
  obtain ⟨hH, hK, hi, hV, hS, hE⟩ := h
  obtain ⟨hT, hh, hz, hp, hw, hc, hb⟩ := id hH
  obtain ⟨r, u_house_tape, u_house_tapeLength, u_errors, z_row, z_errors, e1, e2, hp', hE', f⟩ := q_feed hp hE a0 a1
  exact ⟨r, u_house_tape, u_house_tapeLength, u_errors, z_row, z_errors, e1, e2, ⟨⟨RTh_fr hT (fun j hj => f j (by omega) (by omega)), RHr_fr hh (f 0 (by omega) (by omega)), hz.trans (f 1 (by omega) (by omega)).symm, hp', RWt_fr hw (fun j hj => f j (by omega) (by omega)), RCd_fr hc (fun j _ _ => f j (by omega) (by omega)), RCd_fr hb (fun j _ _ => f j (by omega) (by omega))⟩, hK, hi, hV, hS, hE'⟩⟩
theorem rl_text : rlP_text wRel := by
  intro I J A h a0
  obtain ⟨hH, hK, hi, hV, hS, hE⟩ := h
  obtain ⟨hT, hh, hz, hp, hw, hc, hb⟩ := id hH
  obtain ⟨r, u_house_tapeLength, u_house_pullLaw_steps, u_house_pullLaw_stepCount, u_house_breakLaw_steps, u_house_breakLaw_stepCount, u_reader_steps, u_reader_stepCount, u_reader_fault, u_reader_bytes, u_reader_length, u_reader_at, u_reader_use, u_errors, z_row, z_errors, z_act, z_with, z_laid, z_here, z_opened, z_bad, z_using, e1, e2, hp', hc', hb', hE', f⟩ := q_text (rst := A 22) (rby := A 23) (ac := A 40) (wi := A 41) (rcn := I 15) (rfa := I 16) (rle := I 17) (rat := I 18) (rus := I 19) (la := I 30) (he := I 31) (op := I 32) (bd := I 33) (us := I 34) hp hc hb hE a0
  exact ⟨r, u_house_tapeLength, u_house_pullLaw_steps, u_house_pullLaw_stepCount, u_house_breakLaw_steps, u_house_breakLaw_stepCount, u_reader_steps, u_reader_stepCount, u_reader_fault, u_reader_bytes, u_reader_length, u_reader_at, u_reader_use, u_errors, z_row, z_errors, z_act, z_with, z_laid, z_here, z_opened, z_bad, z_using, e1, e2, ⟨⟨RTh_fr hT (fun j hj => f j (by omega) (by omega)), RHr_fr hh (f 0 (by omega) (by omega)), hz.trans (f 1 (by omega) (by omega)).symm, hp', RWt_fr hw (fun j hj => f j (by omega) (by omega)), hc', hb'⟩, hK, hi, hV, hS, hE'⟩⟩
theorem rl_untell : rlP_untell wRel := by
  intro I J A h a0
  obtain ⟨hH, hK, hi, hV, hS, hE⟩ := h
  obtain ⟨hT, hh, hz, hp, hw, hc, hb⟩ := id hH
  obtain ⟨r, u_house_pullLaw_stepCount, u_house_breakLaw_stepCount, u_errors, z_row, z_errors, e1, e2, hc', hb', hE', f⟩ := q_untell hc hb hE a0
  exact ⟨r, u_house_pullLaw_stepCount, u_house_breakLaw_stepCount, u_errors, z_row, z_errors, e1, e2, ⟨⟨RTh_fr hT (fun j hj => f j (by omega) (by omega)), RHr_fr hh (f 0 (by omega) (by omega)), hz.trans (f 1 (by omega) (by omega)).symm, RTp_fr hp (fun j hj => f j (by omega) (by omega)), RWt_fr hw (fun j hj => f j (by omega) (by omega)), hc', hb'⟩, hK, hi, hV, hS, hE'⟩⟩
theorem rl_law : rlP_law wRel := by
  intro I J A h a0 a1 a2 a3
  obtain ⟨hH, hK, hi, hV, hS, hE⟩ := h
  obtain ⟨hT, hh, hz, hp, hw, hc, hb⟩ := id hH
  obtain ⟨r, u_house_pullLaw_stack, u_house_breakLaw_stack, u_errors, z_errors, z_facts, z_pile, e1, e2, hE'⟩ := q_law (pstack := A 7) (bstack := A 9) hc hb hE a0 a1 a2 a3 (A 42) (A 43)
  exact ⟨r, u_house_pullLaw_stack, u_house_breakLaw_stack, u_errors, z_errors, z_facts, z_pile, e1, e2, ⟨⟨hT, hh, hz, hp, hw, hc, hb⟩, hK, hi, hV, hS, hE'⟩⟩
theorem rl_hours : rlP_hours wRel := by
  intro I J A h a0
  obtain ⟨hH, hK, hi, hV, hS, hE⟩ := h
  obtain ⟨hT, hh, hz, hp, hw, hc, hb⟩ := id hH
  obtain ⟨r, u_house_things_cell, u_house_things_broken, u_house_things_fell, u_house_things_taken, u_house_hour, u_house_pullLaw_stack, u_house_breakLaw_stack, u_errors, z_row, z_errors, z_facts, z_pile, e1, e2, hT', hh', hE', f⟩ := q_hours (pstack := A 7) (bstack := A 9) hT hh hc hb hE a0 (A 42) (A 43)
  unfold frH at f
  exact ⟨r, u_house_things_cell, u_house_things_broken, u_house_things_fell, u_house_things_taken, u_house_hour, u_house_pullLaw_stack, u_house_breakLaw_stack, u_errors, z_row, z_errors, z_facts, z_pile, e1, e2, ⟨⟨hT', hh', hz.trans (f 1 (by omega) (by omega)).symm, RTp_fr hp (fun j hj => f j (by omega) (by omega)), RWt_fr hw (fun j hj => f j (by omega) (by omega)), RCd_fr hc (fun j _ _ => f j (by omega) (by omega)), RCd_fr hb (fun j _ _ => f j (by omega) (by omega))⟩, hK, hi, hV, hS, hE'⟩⟩
theorem rl_shakes : rlP_shakes wRel := by
  intro I J A h a0
  obtain ⟨hH, hK, hi, hV, hS, hE⟩ := h
  obtain ⟨hT, hh, hz, hp, hw, hc, hb⟩ := id hH
  obtain ⟨r, u_house_things_cell, u_house_things_broken, u_house_things_fell, u_house_things_taken, u_house_hour, u_house_z, u_house_breakLaw_stack, u_errors, z_row, z_errors, z_facts, z_pile, e1, e2, hT', hh', hz', hE', f⟩ := q_shakes (bstack := A 9) hT hh hz hb hE a0 (A 42) (A 43)
  unfold frZ at f
  exact ⟨r, u_house_things_cell, u_house_things_broken, u_house_things_fell, u_house_things_taken, u_house_hour, u_house_z, u_house_breakLaw_stack, u_errors, z_row, z_errors, z_facts, z_pile, e1, e2, ⟨⟨hT', hh', hz', RTp_fr hp (fun j hj => f j (by omega) (by omega) (by omega)), RWt_fr hw (fun j hj => f j (by omega) (by omega) (by omega)), RCd_fr hc (fun j _ _ => f j (by omega) (by omega) (by omega)), RCd_fr hb (fun j _ _ => f j (by omega) (by omega) (by omega))⟩, hK, hi, hV, hS, hE'⟩⟩
theorem rl_seed : rlP_seed wRel := by
  intro I J A h a0
  obtain ⟨hH, hK, hi, hV, hS, hE⟩ := h
  obtain ⟨hT, hh, hz, hp, hw, hc, hb⟩ := id hH
  obtain ⟨r, u_house_z, z_row, e1, e2, hz', f⟩ := q_seed hz a0
  exact ⟨r, u_house_z, z_row, e1, e2, ⟨⟨RTh_fr hT (fun j hj => f j (by omega)), RHr_fr hh (f 0 (by omega)), hz', RTp_fr hp (fun j hj => f j (by omega)), RWt_fr hw (fun j hj => f j (by omega)), RCd_fr hc (fun j _ _ => f j (by omega)), RCd_fr hb (fun j _ _ => f j (by omega))⟩, hK, hi, hV, hS, hE⟩⟩
theorem rl_pull : rlP_pull wRel := by
  intro I J A h a0
  obtain ⟨hH, hK, hi, hV, hS, hE⟩ := h
  obtain ⟨hT, hh, hz, hp, hw, hc, hb⟩ := id hH
  obtain ⟨r, u_house_pullLaw_stack, u_errors, z_errors, z_facts, z_pile, e1, e2, hE'⟩ := q_pull (pstack := A 7) hT hc hE a0 (A 42) (A 43)
  exact ⟨r, u_house_pullLaw_stack, u_errors, z_errors, z_facts, z_pile, e1, e2, ⟨⟨hT, hh, hz, hp, hw, hc, hb⟩, hK, hi, hV, hS, hE'⟩⟩
theorem rl_then : rlP_then wRel := by
  intro I J A h a0 a1
  obtain ⟨hH, hK, hi, hV, hS, hE⟩ := h
  obtain ⟨hT, hh, hz, hp, hw, hc, hb⟩ := id hH
  obtain ⟨r, u_house_pullLaw_stack, u_thought_things_kind, u_thought_things_m, u_thought_things_cell, u_thought_things_broken, u_thought_things_fell, u_thought_things_count, u_thought_things_taken, u_thought_pulls, u_errors, z_row, z_before, z_errors, z_facts, z_pile, e1, e2, hE', f⟩ := q_then (pstack := A 7) hT hh hc hb hE a0 a1 (A 24) (A 25) (A 26) (A 27) (A 28) (I 23) (J 4) (A 29) (A 38) (A 42) (A 43)
  exact ⟨r, u_house_pullLaw_stack, u_thought_things_kind, u_thought_things_m, u_thought_things_cell, u_thought_things_broken, u_thought_things_fell, u_thought_things_count, u_thought_things_taken, u_thought_pulls, u_errors, z_row, z_before, z_errors, z_facts, z_pile, e1, e2, ⟨RHs_fr hH f, hK, hi, hV, hS, hE'⟩⟩
theorem rl_when : rlP_when wRel := by
  intro I J A h a0 a1
  obtain ⟨hH, hK, hi, hV, hS, hE⟩ := h
  obtain ⟨hT, hh, hz, hp, hw, hc, hb⟩ := id hH
  obtain ⟨r, u_house_pullLaw_stack, u_thought_things_kind, u_thought_things_m, u_thought_things_cell, u_thought_things_broken, u_thought_things_fell, u_thought_things_count, u_thought_things_taken, u_thought_pulls, u_errors, z_row, z_before, z_errors, z_facts, z_pile, e1, e2, hE', f⟩ := q_when (pstack := A 7) hT hh hc hb hE a0 a1 (A 24) (A 25) (A 26) (A 27) (A 28) (I 23) (J 4) (A 29) (A 38) (A 42) (A 43)
  exact ⟨r, u_house_pullLaw_stack, u_thought_things_kind, u_thought_things_m, u_thought_things_cell, u_thought_things_broken, u_thought_things_fell, u_thought_things_count, u_thought_things_taken, u_thought_pulls, u_errors, z_row, z_before, z_errors, z_facts, z_pile, e1, e2, ⟨RHs_fr hH f, hK, hi, hV, hS, hE'⟩⟩
theorem rl_farthest : rlP_farthest wRel := by
  intro I J A h a0 a1
  obtain ⟨hH, hK, hi, hV, hS, hE⟩ := h
  obtain ⟨hT, hh, hz, hp, hw, hc, hb⟩ := id hH
  obtain ⟨r, u_house_pullLaw_stack, u_thought_things_kind, u_thought_things_m, u_thought_things_cell, u_thought_things_broken, u_thought_things_fell, u_thought_things_count, u_thought_things_taken, u_thought_pulls, u_thought_farthest, u_thought_farthestThing, u_thought_farthestHour, u_errors, z_row, z_before, z_errors, z_facts, z_pile, e1, e2, hE', f⟩ := q_farthest (pstack := A 7) hT hh hc hb hE a0 a1 (A 24) (A 25) (A 26) (A 27) (A 28) (I 23) (J 4) (A 29) (I 20) (I 21) (I 22) (A 38) (A 42) (A 43)
  exact ⟨r, u_house_pullLaw_stack, u_thought_things_kind, u_thought_things_m, u_thought_things_cell, u_thought_things_broken, u_thought_things_fell, u_thought_things_count, u_thought_things_taken, u_thought_pulls, u_thought_farthest, u_thought_farthestThing, u_thought_farthestHour, u_errors, z_row, z_before, z_errors, z_facts, z_pile, e1, e2, ⟨RHs_fr hH f, hK, hi, hV, hS, hE'⟩⟩
theorem rl_screws : rlP_screws wRel := by
  intro I J A h a0 a1 a2
  obtain ⟨hH, hK, hi, hV, hS, hE⟩ := h
  obtain ⟨hT, hh, hz, hp, hw, hc, hb⟩ := id hH
  obtain ⟨r, u_house_pullLaw_stack, u_thought_things_kind, u_thought_things_m, u_thought_things_cell, u_thought_things_broken, u_thought_things_fell, u_thought_things_count, u_thought_things_taken, u_thought_pulls, u_errors, z_row, z_before, z_errors, z_facts, z_pile, e1, e2, hE', f⟩ := q_screws (pstack := A 7) hT hh hc hb hE a0 a1 a2 (A 24) (A 25) (A 26) (A 27) (A 28) (I 23) (J 4) (A 29) (A 38) (A 42) (A 43)
  exact ⟨r, u_house_pullLaw_stack, u_thought_things_kind, u_thought_things_m, u_thought_things_cell, u_thought_things_broken, u_thought_things_fell, u_thought_things_count, u_thought_things_taken, u_thought_pulls, u_errors, z_row, z_before, z_errors, z_facts, z_pile, e1, e2, ⟨RHs_fr hH f, hK, hi, hV, hS, hE'⟩⟩
theorem rl_lands : rlP_lands wRel := by
  intro I J A h a0 a1
  obtain ⟨hH, hK, hi, hV, hS, hE⟩ := h
  obtain ⟨hT, hh, hz, hp, hw, hc, hb⟩ := id hH
  obtain ⟨r, u_errors, z_errors, e1, e2, hE'⟩ := q_lands (RTh_wl hT) hE a0 a1
  exact ⟨r, u_errors, z_errors, e1, e2, ⟨⟨hT, hh, hz, hp, hw, hc, hb⟩, hK, hi, hV, hS, hE'⟩⟩
theorem rl_sources : rlP_sources wRel := by
  intro I J A h a0 a1
  obtain ⟨hH, hK, hi, hV, hS, hE⟩ := h
  obtain ⟨hT, hh, hz, hp, hw, hc, hb⟩ := id hH
  obtain ⟨r, u_landings_rests, u_landings_walls, u_errors, z_errors, e1, e2, hE'⟩ := q_sources (wl0 := J 5) (rests := A 30) (RTh_wl hT) hE a0 a1
  exact ⟨r, u_landings_rests, u_landings_walls, u_errors, z_errors, e1, e2, ⟨⟨hT, hh, hz, hp, hw, hc, hb⟩, hK, hi, hV, hS, hE'⟩⟩
theorem rl_rooms : rlP_rooms wRel := by
  intro I J A h a0 a1
  obtain ⟨hH, hK, hi, hV, hS, hE⟩ := h
  obtain ⟨hT, hh, hz, hp, hw, hc, hb⟩ := id hH
  obtain ⟨r, u_house_pullLaw_stack, u_thought_pulls, u_landings_rests, u_landings_walls, u_errors, z_errors, z_facts, z_pile, e1, e2, hE'⟩ := q_rooms (wl0 := J 5) (pstack := A 7) (pulls := A 29) (rests := A 30) hT hh hc hE a0 a1 (A 42) (A 43)
  exact ⟨r, u_house_pullLaw_stack, u_thought_pulls, u_landings_rests, u_landings_walls, u_errors, z_errors, z_facts, z_pile, e1, e2, ⟨⟨hT, hh, hz, hp, hw, hc, hb⟩, hK, hi, hV, hS, hE'⟩⟩
theorem rl_soonest : rlP_soonest wRel := by
  intro I J A h a0 a1
  obtain ⟨hH, hK, hi, hV, hS, hE⟩ := h
  obtain ⟨hT, hh, hz, hp, hw, hc, hb⟩ := id hH
  obtain ⟨r, u_house_pullLaw_stack, u_thought_pulls, u_landings_rests, u_landings_walls, u_errors, z_errors, z_facts, z_pile, e1, e2, hE'⟩ := q_soonest (wl0 := J 5) (pstack := A 7) (pulls := A 29) (rests := A 30) hT hh hc hE a0 a1 (A 42) (A 43)
  exact ⟨r, u_house_pullLaw_stack, u_thought_pulls, u_landings_rests, u_landings_walls, u_errors, z_errors, z_facts, z_pile, e1, e2, ⟨⟨hT, hh, hz, hp, hw, hc, hb⟩, hK, hi, hV, hS, hE'⟩⟩
theorem rl_shut : rlP_shut wRel := by
  intro I J A h a0
  obtain ⟨hH, hK, hi, hV, hS, hE⟩ := h
  obtain ⟨hT, hh, hz, hp, hw, hc, hb⟩ := id hH
  obtain ⟨r, u_house_pullLaw_stack, u_thought_pulls, u_landings_rests, u_landings_walls, u_errors, z_errors, z_facts, z_pile, e1, e2, hE'⟩ := q_shut (wl0 := J 5) (pstack := A 7) (pulls := A 29) (rests := A 30) hT hh hc hE a0 (A 42) (A 43)
  exact ⟨r, u_house_pullLaw_stack, u_thought_pulls, u_landings_rests, u_landings_walls, u_errors, z_errors, z_facts, z_pile, e1, e2, ⟨⟨hT, hh, hz, hp, hw, hc, hb⟩, hK, hi, hV, hS, hE'⟩⟩
theorem rl_fits : rlP_fits wRel := by
  intro I J A h a0
  obtain ⟨hH, hK, hi, hV, hS, hE⟩ := h
  obtain ⟨hT, hh, hz, hp, hw, hc, hb⟩ := id hH
  obtain ⟨r, u_house_pullLaw_stack, u_thought_pulls, u_landings_rests, u_landings_walls, u_errors, z_errors, z_facts, z_pile, e1, e2, hE'⟩ := q_fits (wl0 := J 5) (pstack := A 7) (pulls := A 29) (rests := A 30) hT hc hS hE a0 (A 42) (A 43)
  exact ⟨r, u_house_pullLaw_stack, u_thought_pulls, u_landings_rests, u_landings_walls, u_errors, z_errors, z_facts, z_pile, e1, e2, ⟨⟨hT, hh, hz, hp, hw, hc, hb⟩, hK, hi, hV, hS, hE'⟩⟩
theorem rl_voice : rlP_voice wRel := by
  intro I J A h a0 a1 a2
  obtain ⟨hH, hK, hi, hV, hS, hE⟩ := h
  obtain ⟨hT, hh, hz, hp, hw, hc, hb⟩ := id hH
  obtain ⟨r, u_voices_parted, u_voices_traced, u_voices_trace, u_voices_kind, u_voices_number, u_voices_m, u_errors, z_errors, z_trace, z_traced, z_isParted, e1, e2, hE', hV'⟩ := q_voice (pt := I 24) (kd := I 26) (nu := I 27) (vm := I 28) (ip := I 36) hT hV hE a0 a1 a2
  exact ⟨r, u_voices_parted, u_voices_traced, u_voices_trace, u_voices_kind, u_voices_number, u_voices_m, u_errors, z_errors, z_trace, z_traced, z_isParted, e1, e2, ⟨⟨hT, hh, hz, hp, hw, hc, hb⟩, hK, hi, hV', hS, hE'⟩⟩
theorem rl_body : rlP_body wRel := by
  intro I J A h a0
  obtain ⟨hH, hK, hi, hV, hS, hE⟩ := h
  obtain ⟨hT, hh, hz, hp, hw, hc, hb⟩ := id hH
  obtain ⟨r, u_errors, z_errors, e1, e2, hE'⟩ := q_body hV hE a0
  exact ⟨r, u_errors, z_errors, e1, e2, ⟨⟨hT, hh, hz, hp, hw, hc, hb⟩, hK, hi, hV, hS, hE'⟩⟩
theorem rl_sheet : rlP_sheet wRel := by
  intro I J A h a0 a1 a2
  obtain ⟨hH, hK, hi, hV, hS, hE⟩ := h
  obtain ⟨hT, hh, hz, hp, hw, hc, hb⟩ := id hH
  obtain ⟨r, u_sheets_bits, u_sheets_length, u_sheets_numbers, u_errors, z_errors, z_bitsOf, z_sizeOf, z_cells, e1, e2, hE', hS'⟩ := q_sheet hS hE a0 a1 a2
  exact ⟨r, u_sheets_bits, u_sheets_length, u_sheets_numbers, u_errors, z_errors, z_bitsOf, z_sizeOf, z_cells, e1, e2, ⟨⟨hT, hh, hz, hp, hw, hc, hb⟩, hK, hi, hV, hS', hE'⟩⟩
theorem rl_put : rlP_put wRel := by
  intro I J A h a0 a1 a2
  obtain ⟨hH, hK, hi, hV, hS, hE⟩ := h
  obtain ⟨hT, hh, hz, hp, hw, hc, hb⟩ := id hH
  obtain ⟨r, u_sheets_numbers, u_errors, z_errors, z_cells, e1, e2, hE', hS'⟩ := q_put hS hE a0 a1 a2
  exact ⟨r, u_sheets_numbers, u_errors, z_errors, z_cells, e1, e2, ⟨⟨hT, hh, hz, hp, hw, hc, hb⟩, hK, hi, hV, hS', hE'⟩⟩
theorem rl_move : rlP_move wRel := by
  intro I J A h a0 a1 a2 a3 a4
  obtain ⟨hH, hK, hi, hV, hS, hE⟩ := h
  obtain ⟨hT, hh, hz, hp, hw, hc, hb⟩ := id hH
  obtain ⟨r, u_sheets_numbers, u_errors, z_errors, z_cells, e1, e2, hE', hS'⟩ := q_move hS hE a0 a1 a2 a3 a4
  exact ⟨r, u_sheets_numbers, u_errors, z_errors, z_cells, e1, e2, ⟨⟨hT, hh, hz, hp, hw, hc, hb⟩, hK, hi, hV, hS', hE'⟩⟩
theorem rl_walls : rlP_walls wRel := by
  intro I J A h a0
  obtain ⟨hH, hK, hi, hV, hS, hE⟩ := h
  obtain ⟨hT, hh, hz, hp, hw, hc, hb⟩ := id hH
  obtain ⟨r, u_house_walls, u_errors, z_row, z_errors, e1, e2, hT', hE', f⟩ := q_walls hT hS hE a0
  unfold frT at f
  exact ⟨r, u_house_walls, u_errors, z_row, z_errors, e1, e2, ⟨⟨hT', RHr_fr hh (f 0 (by omega)), hz.trans (f 1 (by omega)).symm, RTp_fr hp (fun j hj => f j (by omega)), RWt_fr hw (fun j hj => f j (by omega)), RCd_fr hc (fun j _ _ => f j (by omega)), RCd_fr hb (fun j _ _ => f j (by omega))⟩, hK, hi, hV, hS, hE'⟩⟩
theorem rl_judge : rlP_judge wRel := by
  intro I J A h a0
  obtain ⟨hH, hK, hi, hV, hS, hE⟩ := h
  obtain ⟨hT, hh, hz, hp, hw, hc, hb⟩ := id hH
  obtain ⟨r, u_house_pullLaw_stack, u_errors, z_errors, z_facts, z_pile, e1, e2, hE'⟩ := q_judge (pstack := A 7) hT hh hc hS hE a0 (A 42) (A 43)
  exact ⟨r, u_house_pullLaw_stack, u_errors, z_errors, z_facts, z_pile, e1, e2, ⟨⟨hT, hh, hz, hp, hw, hc, hb⟩, hK, hi, hV, hS, hE'⟩⟩
theorem rl_image : rlP_image wRel := by
  intro I J A h _
  obtain ⟨hH, hK, hi, hV, hS, hE⟩ := h
  obtain ⟨hT, hh, hz, hp, hw, hc, hb⟩ := id hH
  obtain ⟨k', m', c', b', f', tp', ps', bs', wt', Kp', e1, e2, hH'⟩ := q_image (Kp := A 37) (im := I 0) hH (A 11) (A 12) (A 13) (A 14) (A 15) (I 12) (J 3) (A 16) (J 2) (I 8) (I 9) (I 10) (I 11) (A 17) (I 13) (A 19) (I 14) (A 21)
  have e3 : s_M_image (A 36) (A 37) (I 29) = some (I 0 + 1, Kp', I 0 + 1) := by rw [hi]; exact e2
  exact ⟨_, _, _, _, _, _, _, _, _, _, _, _, _, _, _, _, _, _, _, _, _, _, e1, e3, hH, fun _ => hH', rfl, hV, hS, hE⟩
theorem rl_restore : rlP_restore wRel := by
  intro I J A h _
  obtain ⟨hH, hK, hi, hV, hS, hE⟩ := h
  obtain ⟨hT, hh, hz, hp, hw, hc, hb⟩ := id hH
  obtain ⟨r, u_house_things_kind, u_house_things_m, u_house_things_cell, u_house_things_broken, u_house_things_fell, u_house_things_count, u_house_things_taken, u_house_tape, u_house_walls, u_house_hour, u_house_z, u_house_tapeLength, u_house_waits, u_house_pullLaw_steps, u_house_pullLaw_stepCount, u_house_breakLaw_steps, u_house_breakLaw_stepCount, u_house_waiting, u_errors, z_row, z_errors, e1, e2, hH', hE'⟩ := q_restore hH hK hE
  rw [← hi] at e2
  exact ⟨r, u_house_things_kind, u_house_things_m, u_house_things_cell, u_house_things_broken, u_house_things_fell, u_house_things_count, u_house_things_taken, u_house_tape, u_house_walls, u_house_hour, u_house_z, u_house_tapeLength, u_house_waits, u_house_pullLaw_steps, u_house_pullLaw_stepCount, u_house_breakLaw_steps, u_house_breakLaw_stepCount, u_house_waiting, u_errors, z_row, z_errors, e1, e2, ⟨hH', hK, hi, hV, hS, hE'⟩⟩
theorem rl_tell : rlP_tell wRel := by
  intro I J A h a0
  obtain ⟨hH, hK, hi, hV, hS, hE⟩ := h
  obtain ⟨hT, hh, hz, hp, hw, hc, hb⟩ := id hH
  obtain ⟨r, u_house_waits, u_house_waiting, u_errors, z_row, z_errors, e1, e2, hw', hE', f⟩ := q_tell hw hE a0
  exact ⟨r, u_house_waits, u_house_waiting, u_errors, z_row, z_errors, e1, e2, ⟨⟨RTh_fr hT (fun j hj => f j (by omega) (by omega)), RHr_fr hh (f 0 (by omega) (by omega)), hz.trans (f 1 (by omega) (by omega)).symm, RTp_fr hp (fun j hj => f j (by omega) (by omega)), hw', RCd_fr hc (fun j _ _ => f j (by omega) (by omega)), RCd_fr hb (fun j _ _ => f j (by omega) (by omega))⟩, hK, hi, hV, hS, hE'⟩⟩
theorem rl_check : rlP_check wRel := by
  intro I J A h _
  obtain ⟨hH, hK, hi, hV, hS, hE⟩ := h
  obtain ⟨hT, hh, hz, hp, hw, hc, hb⟩ := id hH
  obtain ⟨r, u_house_waits, z_row, e1, e2, hw', f⟩ := q_check hT hw
  exact ⟨r, u_house_waits, z_row, e1, e2, ⟨⟨RTh_fr hT (fun j hj => f j (by omega)), RHr_fr hh (f 0 (by omega)), hz.trans (f 1 (by omega)).symm, RTp_fr hp (fun j hj => f j (by omega)), hw', RCd_fr hc (fun j _ _ => f j (by omega)), RCd_fr hb (fun j _ _ => f j (by omega))⟩, hK, hi, hV, hS, hE⟩⟩
theorem rl_count : rlP_count wRel := by
  intro I J A h a0
  obtain ⟨hH, hK, hi, hV, hS, hE⟩ := h
  obtain ⟨hT, hh, hz, hp, hw, hc, hb⟩ := id hH
  obtain ⟨r, u_house_pullLaw_stack, u_errors, z_errors, z_facts, z_pile, e1, e2, hE'⟩ := q_count (pstack := A 7) hT hh hz hp hw hc hV hE a0 (A 42) (A 43)
  exact ⟨r, u_house_pullLaw_stack, u_errors, z_errors, z_facts, z_pile, e1, e2, ⟨⟨hT, hh, hz, hp, hw, hc, hb⟩, hK, hi, hV, hS, hE'⟩⟩
theorem rl_told : rlP_told wRel := by
  intro I J A h a0
  obtain ⟨hH, hK, hi, hV, hS, hE⟩ := h
  obtain ⟨hT, hh, hz, hp, hw, hc, hb⟩ := id hH
  obtain ⟨r, u_errors, z_errors, e1, e2, hE'⟩ := q_told hE a0
  exact ⟨r, u_errors, z_errors, e1, e2, ⟨⟨hT, hh, hz, hp, hw, hc, hb⟩, hK, hi, hV, hS, hE'⟩⟩
theorem wRel_0 : RHs (fun _ => 0) (fun _ => 0) (fun _ => 0) (fun _ => 0) (fun _ => 0) 0 0 (fun _ => 0) 0 0 1 0 0 (fun _ => 0) 0 (fun _ => 0) 0 (fun _ => 0) (upd (fun _ => 0) (1 : Int32).toNatClampNeg (1 : Int32)) := by
  have e : (1 : Int32).toNatClampNeg = 1 := rfl
  rw [e]
  have z : ∀ j, j ≠ 1 → upd (fun _ => (0 : Int32)) 1 1 j = 0 := fun j hj => pk_un hj
  have cd : ∀ base, base ≠ 1 → RCd (fun _ => 0) 0 base (upd (fun _ => (0 : Int32)) 1 1) := fun base hb => ⟨0, fun _ => 0, fun _ => 0, fun _ => 0, Nat.zero_le _, rfl, z base hb, rfl, fun k hk => absurd hk (Nat.not_lt_zero _)⟩
  have b0 : ∀ c, bL 0 c = false := fun c => by simp [bL]
  refine ⟨⟨0, fun _ => 0, fun _ => 0, fun _ => 0, ⟨by omega, rfl, z 2 (by omega), fun t ht => absurd ht (Nat.not_lt_zero _), fun t ht => absurd ht (Nat.not_lt_zero _), fun t ht => absurd ht (Nat.not_lt_zero _), fun t u ht => absurd ht (Nat.not_lt_zero _), fun t ht => absurd ht (Nat.not_lt_zero _), fun d hd => ?_, fun c hc => ?_⟩, fun t ht => absurd ht (Nat.not_lt_zero _), fun t ht => absurd ht (Nat.not_lt_zero _), fun c _ _ => b0 c⟩, ⟨0, by omega, rfl, z 0 (by omega)⟩, pk_us.symm, ⟨0, by omega, rfl, z 3 (by omega), fun i hi => absurd hi (Nat.not_lt_zero _)⟩, ⟨0, by omega, rfl, z 4 (by omega), fun i hi => absurd hi (Nat.not_lt_zero _)⟩, cd 155 (by omega), cd 276 (by omega)⟩
  · rw [b0]
    exact ⟨fun h => absurd h (by decide), fun ⟨t, ht, _⟩ => absurd ht (Nat.not_lt_zero _)⟩
  · rw [b0, z _ (by omega)]
    rfl
theorem wRel_init {I : Nat → Int32} {J : Nat → Int64} {A : Nat → Nat → Int32} (hI : I = (fun k => if k = 2 then 1 else if k = 9 then 1 else if k = 16 then (-1) else if k = 21 then (-1) else 0)) (hJ : J = (fun _ => 0)) (hA : A = (fun k => if k = 36 then upd (fun _ => 0) (1 : Int32).toNatClampNeg (1 : Int32) else (fun _ => 0))) : wRel I J A := by
  subst hI hJ hA
  exact ⟨wRel_0, fun h => absurd rfl h, rfl, ⟨0, rfl, rfl, by omega, fun i hi => absurd hi (Nat.not_lt_zero _)⟩, ⟨fun _ => 0, fun s hs => ⟨rfl, Nat.zero_le _, rfl, rfl, fun _ => rfl, fun k hk => absurd hk (Nat.not_lt_zero _)⟩⟩, fun k _ => rfl⟩
