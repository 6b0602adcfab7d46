set_option maxHeartbeats 4000000 in
set_option maxRecDepth 100000 in
theorem law_loop_open {p : Program} {l : Launch} {e : Env} {s : State} {m : MethodId} {below : List Frame} {meth : Method} {c : Code} {G : va_G} {cI cB : ClassId} {b L : Nat} {xs : Nat → Int32} {Q : State → Prop} (hL : L ≤ 3072) (C0 : lw_At p s m meth c b L xs) (hZ : j_St (fun q : Nat => s.heap.size ≤ q) s s.heap) (hK : va_K G vwCl (j_ty cI cB) s) (Rel : (Nat → Int32) → (Nat → Int64) → (Nat → Nat → Int32) → Prop) (hQ : Q = lw_Z below #[Value.ref b] s) (h0 : rlP_wall Rel) (h1 : rlP_cellIs Rel) (h2 : rlP_thing Rel) (h3 : rlP_thingIs Rel) (h4 : rlP_become Rel) (h5 : rlP_as Rel) (h6 : rlP_carry Rel) (h7 : rlP_clock Rel) (h8 : rlP_feed Rel) (h9 : rlP_text Rel) (h10 : rlP_untell Rel) (h11 : rlP_law Rel) (h12 : rlP_hours Rel) (h13 : rlP_shakes Rel) (h14 : rlP_seed Rel) (h15 : rlP_pull Rel) (h16 : rlP_then Rel) (h17 : rlP_when Rel) (h18 : rlP_farthest Rel) (h19 : rlP_screws Rel) (h20 : rlP_lands Rel) (h21 : rlP_sources Rel) (h22 : rlP_rooms Rel) (h23 : rlP_soonest Rel) (h24 : rlP_shut Rel) (h25 : rlP_fits Rel) (h26 : rlP_voice Rel) (h27 : rlP_body Rel) (h28 : rlP_sheet Rel) (h29 : rlP_put Rel) (h30 : rlP_move Rel) (h31 : rlP_walls Rel) (h32 : rlP_judge Rel) (h33 : rlP_image Rel) (h34 : rlP_restore Rel) (h35 : rlP_tell Rel) (h36 : rlP_check Rel) (h37 : rlP_count Rel) (h38 : rlP_told Rel) (ad : Nat → Nat) :
    ∀ (n i : Nat) (x3 : Int32) (I : Nat → Int32) (J : Nat → Int64) (A : Nat → Nat → Int32) (H : Heap) (locs : List Loc) (ls : Array Slot), L < i + n → x3 = nI i → i ≤ 3080 → Rel I J A → va_P G vwCl (lw_W cI cB ad I J A) H → va_D (fun q : Nat => s.heap.size ≤ q) (lw_W cI cB ad I J A) → va_S (fun q : Nat => s.heap.size ≤ q) s.heap H locs → lv_has ls 4 [(0, .ref b), (1, .ref (ad 0)), (2, .ref (ad 51)), (3, .int x3)] → W p l e room_1 s m #[Value.ref b] below meth c H locs 64 2863 Q (F0 m 18 ls []) := by
  obtain ⟨hx, hb, hret, hml, hown0, hts0, hX, hbl, hlocks, hgv⟩ := id C0
  have hown : s.vm.findClass RL = some m.cls := hown0
  have hbA : ¬ (fun q : Nat => s.heap.size ≤ q) b := Nat.not_le.mpr hbl
  have hL6 : (nI L - (6 : Int32)).toInt = (L : Int) - 6 := pk_sub_toInt (a := L) (b := 6) (by omega) (by omega)
  intro n
  induction n with
  | zero =>
    intro i x3 I J A H locs ls hn ex3 hi9 hRel hP hD hS hl
    refine lv_iload_n hx hb dL_law_18 rfl (lv_at hl 3 rfl) ?_
    refine lv_aload_n hx hb dL_law_19 rfl (lv_at hl 0 rfl) ?_
    refine va_slen hx hb hX hbl hbA hS dL_law_20 ?_
    refine lv_bipush (v := (6 : Int32)) hx hb dL_law_21 (by decide) ?_
    refine lv_isub hx hb dL_law_23 ?_
    refine lv_icmp_gt (tgt := 1410) hx hb dL_law_24 (by decide) (fun c_1 => ?_) (fun c_1 => ?_)
    · refine lv_iconst (v := 1) hx hb dL_law_1410 (by decide) ?_
      refine va_forget (fun q hq => hS.2.2 q hq) ?_
      refine W.widen (k := 600000) (n := 7302250) (Nat.le_of_ble_eq_true rfl) (Nat.le_of_ble_eq_true rfl) ?_
      rw [hQ]
      exact lw_ret hx hb hret hlocks dL_law_1411
    · exfalso
      apply c_1
      rw [Int32.lt_iff_toInt_lt]
      show (nI L - (6 : Int32)).toInt < x3.toInt
      rw [hL6, ex3, nI_toInt (by omega)]
      omega
  | succ n ih =>
    intro i x3 I J A H locs ls hn ex3 hi9 hRel hP hD hS hl
    refine lv_iload_n hx hb dL_law_18 rfl (lv_at hl 3 rfl) ?_
    refine lv_aload_n hx hb dL_law_19 rfl (lv_at hl 0 rfl) ?_
    refine va_slen hx hb hX hbl hbA hS dL_law_20 ?_
    refine lv_bipush (v := (6 : Int32)) hx hb dL_law_21 (by decide) ?_
    refine lv_isub hx hb dL_law_23 ?_
    refine lv_icmp_gt (tgt := 1410) hx hb dL_law_24 (by decide) (fun c_1 => ?_) (fun c_1 => ?_)
    · refine lv_iconst (v := 1) hx hb dL_law_1410 (by decide) ?_
      refine va_forget (fun q hq => hS.2.2 q hq) ?_
      refine W.widen (k := 600000) (n := 7302250) (Nat.le_of_ble_eq_true rfl) (Nat.le_of_ble_eq_true rfl) ?_
      rw [hQ]
      exact lw_ret hx hb hret hlocks dL_law_1411
    · have hi : i + 6 ≤ L := by
        rcases Nat.lt_or_ge L (i + 6) with q | q
        · exfalso
          apply c_1
          rw [Int32.lt_iff_toInt_lt]
          show (nI L - (6 : Int32)).toInt < x3.toInt
          rw [hL6, ex3, nI_toInt (by omega)]
          omega
        · exact q
      have h_0 : vp_in x3 L := by rw [ex3]; exact vp_in_nI (by omega) (by omega)
      have kk : ∀ (I1 : Nat → Int32) (J1 : Nat → Int64) (A1 : Nat → Nat → Int32) (H1 : Heap) (locs1 : List Loc) (ls1 : Array Slot), Rel I1 J1 A1 → va_P G vwCl (lw_W cI cB ad I1 J1 A1) H1 → va_D (fun q : Nat => s.heap.size ≤ q) (lw_W cI cB ad I1 J1 A1) → va_S (fun q : Nat => s.heap.size ≤ q) s.heap H1 locs1 → lv_has ls1 4 [(0, .ref b), (1, .ref (ad 0)), (2, .ref (ad 51)), (3, .int x3)] → W p l e room_1 s m #[Value.ref b] below meth c H1 locs1 64 2863 Q (F0 m 1404 ls1 []) := by
        intro I1 J1 A1 H1 locs1 ls1 hRel hP hD hS hl
        refine lv_iinc (v := nI (i + 6)) (lv' := [(3, .int (nI (i + 6))), (0, .ref b), (1, .ref (ad 0)), (2, .ref (ad 51))]) hx hb dL_law_1404 hl (k := 3) rfl (by rw [ex3]; exact nI_add i 6) (by decide) rfl (fun ls hl => ?_)
        refine lv_goto (tgt := 18) hx hb dL_law_1407 (by decide) ?_
        exact ih (i + 6) (nI (i + 6)) I1 J1 A1 H1 _ ls (by omega) rfl (by omega) hRel hP hD hS (lv_sub hl [1, 2, 3, 0] rfl)
      refine lv_aload_n hx hb dL_law_27 rfl (lv_at hl 0 rfl) ?_
      refine lv_iload_n hx hb dL_law_28 rfl (lv_at hl 3 rfl) ?_
      refine va_sld hx hb hX hbl hbA hS h_0 dL_law_29 ?_
      refine lv_bipush (v := (63 : Int32)) hx hb dL_law_30 (by decide) ?_
      refine lv_iand hx hb dL_law_32 ?_
      refine lv_topi (fun v ev => ?_)
      obtain ⟨j, hj, ej⟩ := pk_andE (xs x3.toNatClampNeg) (m := 63) 6 (by decide)
      rw [ej] at ev
      subst ev
      by_cases q0 : j = 0
      · subst q0
        refine lv_tableIn (off := 171) (tgt := 204) hx hb dL_law_33 (by decide) (by decide) (by rfl) (by decide) ?_
        exact lc_wall hL C0 hZ hK Rel h0 ad I J A H locs ls i x3 ex3 hi kk hRel hP hD hS hl
      by_cases q1 : j = 1
      · subst q1
        refine lv_tableIn (off := 204) (tgt := 237) hx hb dL_law_33 (by decide) (by decide) (by rfl) (by decide) ?_
        exact lc_cellIs hL C0 hZ hK Rel h1 ad I J A H locs ls i x3 ex3 hi kk hRel hP hD hS hl
      by_cases q2 : j = 2
      · subst q2
        refine lv_tableIn (off := 237) (tgt := 270) hx hb dL_law_33 (by decide) (by decide) (by rfl) (by decide) ?_
        exact lc_thing hL C0 hZ hK Rel h2 ad I J A H locs ls i x3 ex3 hi kk hRel hP hD hS hl
      by_cases q3 : j = 3
      · subst q3
        refine lv_tableIn (off := 270) (tgt := 303) hx hb dL_law_33 (by decide) (by decide) (by rfl) (by decide) ?_
        exact lc_thingIs hL C0 hZ hK Rel h3 ad I J A H locs ls i x3 ex3 hi kk hRel hP hD hS hl
      by_cases q4 : j = 4
      · subst q4
        refine lv_tableIn (off := 303) (tgt := 336) hx hb dL_law_33 (by decide) (by decide) (by rfl) (by decide) ?_
        exact lc_become hL C0 hZ hK Rel h4 ad I J A H locs ls i x3 ex3 hi kk hRel hP hD hS hl
      by_cases q5 : j = 5
      · subst q5
        refine lv_tableIn (off := 336) (tgt := 369) hx hb dL_law_33 (by decide) (by decide) (by rfl) (by decide) ?_
        exact lc_as hL C0 hZ hK Rel h5 ad I J A H locs ls i x3 ex3 hi kk hRel hP hD hS hl
      by_cases q6 : j = 6
      · subst q6
        refine lv_tableIn (off := 369) (tgt := 402) hx hb dL_law_33 (by decide) (by decide) (by rfl) (by decide) ?_
        exact lc_carry hL C0 hZ hK Rel h6 ad I J A H locs ls i x3 ex3 hi kk hRel hP hD hS hl
      by_cases q7 : j = 7
      · subst q7
        refine lv_tableIn (off := 402) (tgt := 435) hx hb dL_law_33 (by decide) (by decide) (by rfl) (by decide) ?_
        exact lc_clock hL C0 hZ hK Rel h7 ad I J A H locs ls i x3 ex3 hi kk hRel hP hD hS hl
      by_cases q8 : j = 8
      · subst q8
        refine lv_tableIn (off := 425) (tgt := 458) hx hb dL_law_33 (by decide) (by decide) (by rfl) (by decide) ?_
        exact lc_feed hL C0 hZ hK Rel h8 ad I J A H locs ls i x3 ex3 hi kk hRel hP hD hS hl
      by_cases q9 : j = 9
      · subst q9
        refine lv_tableIn (off := 488) (tgt := 521) hx hb dL_law_33 (by decide) (by decide) (by rfl) (by decide) ?_
        exact lc_text hL C0 hZ hK Rel h9 ad I J A H locs ls i x3 ex3 hi kk hRel hP hD hS hl
      by_cases q10 : j = 10
      · subst q10
        refine lv_tableIn (off := 511) (tgt := 544) hx hb dL_law_33 (by decide) (by decide) (by rfl) (by decide) ?_
        exact lc_untell hL C0 hZ hK Rel h10 ad I J A H locs ls i x3 ex3 hi kk hRel hP hD hS hl
      by_cases q11 : j = 11
      · subst q11
        refine lv_tableIn (off := 534) (tgt := 567) hx hb dL_law_33 (by decide) (by decide) (by rfl) (by decide) ?_
        exact lc_law hL C0 hZ hK Rel h11 ad I J A H locs ls i x3 ex3 hi kk hRel hP hD hS hl
      by_cases q12 : j = 12
      · subst q12
        refine lv_tableIn (off := 587) (tgt := 620) hx hb dL_law_33 (by decide) (by decide) (by rfl) (by decide) ?_
        exact lc_hours hL C0 hZ hK Rel h12 ad I J A H locs ls i x3 ex3 hi kk hRel hP hD hS hl
      by_cases q13 : j = 13
      · subst q13
        refine lv_tableIn (off := 610) (tgt := 643) hx hb dL_law_33 (by decide) (by decide) (by rfl) (by decide) ?_
        exact lc_shakes hL C0 hZ hK Rel h13 ad I J A H locs ls i x3 ex3 hi kk hRel hP hD hS hl
      by_cases q14 : j = 14
      · subst q14
        refine lv_tableIn (off := 633) (tgt := 666) hx hb dL_law_33 (by decide) (by decide) (by rfl) (by decide) ?_
        exact lc_seed hL C0 hZ hK Rel h14 ad I J A H locs ls i x3 ex3 hi kk hRel hP hD hS hl
      by_cases q15 : j = 15
      · subst q15
        refine lv_tableIn (off := 656) (tgt := 689) hx hb dL_law_33 (by decide) (by decide) (by rfl) (by decide) ?_
        exact lc_pull hL C0 hZ hK Rel h15 ad I J A H locs ls i x3 ex3 hi kk hRel hP hD hS hl
      by_cases q16 : j = 16
      · subst q16
        refine lv_tableIn (off := 679) (tgt := 712) hx hb dL_law_33 (by decide) (by decide) (by rfl) (by decide) ?_
        exact lc_then hL C0 hZ hK Rel h16 ad I J A H locs ls i x3 ex3 hi kk hRel hP hD hS hl
      by_cases q17 : j = 17
      · subst q17
        refine lv_tableIn (off := 712) (tgt := 745) hx hb dL_law_33 (by decide) (by decide) (by rfl) (by decide) ?_
        exact lc_when hL C0 hZ hK Rel h17 ad I J A H locs ls i x3 ex3 hi kk hRel hP hD hS hl
      by_cases q18 : j = 18
      · subst q18
        refine lv_tableIn (off := 745) (tgt := 778) hx hb dL_law_33 (by decide) (by decide) (by rfl) (by decide) ?_
        exact lc_farthest hL C0 hZ hK Rel h18 ad I J A H locs ls i x3 ex3 hi kk hRel hP hD hS hl
      by_cases q19 : j = 19
      · subst q19
        refine lv_tableIn (off := 778) (tgt := 811) hx hb dL_law_33 (by decide) (by decide) (by rfl) (by decide) ?_
        exact lc_screws hL C0 hZ hK Rel h19 ad I J A H locs ls i x3 ex3 hi kk hRel hP hD hS hl
      by_cases q20 : j = 20
      · subst q20
        refine lv_tableIn (off := 821) (tgt := 854) hx hb dL_law_33 (by decide) (by decide) (by rfl) (by decide) ?_
        exact lc_lands hL C0 hZ hK Rel h20 ad I J A H locs ls i x3 ex3 hi kk hRel hP hD hS hl
      by_cases q21 : j = 21
      · subst q21
        refine lv_tableIn (off := 854) (tgt := 887) hx hb dL_law_33 (by decide) (by decide) (by rfl) (by decide) ?_
        exact lc_sources hL C0 hZ hK Rel h21 ad I J A H locs ls i x3 ex3 hi kk hRel hP hD hS hl
      by_cases q22 : j = 22
      · subst q22
        refine lv_tableIn (off := 888) (tgt := 921) hx hb dL_law_33 (by decide) (by decide) (by rfl) (by decide) ?_
        exact lc_rooms hL C0 hZ hK Rel h22 ad I J A H locs ls i x3 ex3 hi kk hRel hP hD hS hl
      by_cases q23 : j = 23
      · subst q23
        refine lv_tableIn (off := 922) (tgt := 955) hx hb dL_law_33 (by decide) (by decide) (by rfl) (by decide) ?_
        exact lc_soonest hL C0 hZ hK Rel h23 ad I J A H locs ls i x3 ex3 hi kk hRel hP hD hS hl
      by_cases q24 : j = 24
      · subst q24
        refine lv_tableIn (off := 955) (tgt := 988) hx hb dL_law_33 (by decide) (by decide) (by rfl) (by decide) ?_
        exact lc_shut hL C0 hZ hK Rel h24 ad I J A H locs ls i x3 ex3 hi kk hRel hP hD hS hl
      by_cases q25 : j = 25
      · subst q25
        refine lv_tableIn (off := 979) (tgt := 1012) hx hb dL_law_33 (by decide) (by decide) (by rfl) (by decide) ?_
        exact lc_fits hL C0 hZ hK Rel h25 ad I J A H locs ls i x3 ex3 hi kk hRel hP hD hS hl
      by_cases q26 : j = 26
      · subst q26
        refine lv_tableIn (off := 1002) (tgt := 1035) hx hb dL_law_33 (by decide) (by decide) (by rfl) (by decide) ?_
        exact lc_voice hL C0 hZ hK Rel h26 ad I J A H locs ls i x3 ex3 hi kk hRel hP hD hS hl
      by_cases q27 : j = 27
      · subst q27
        refine lv_tableIn (off := 1045) (tgt := 1078) hx hb dL_law_33 (by decide) (by decide) (by rfl) (by decide) ?_
        exact lc_body hL C0 hZ hK Rel h27 ad I J A H locs ls i x3 ex3 hi kk hRel hP hD hS hl
      by_cases q28 : j = 28
      · subst q28
        refine lv_tableIn (off := 1068) (tgt := 1101) hx hb dL_law_33 (by decide) (by decide) (by rfl) (by decide) ?_
        exact lc_sheet hL C0 hZ hK Rel h28 ad I J A H locs ls i x3 ex3 hi kk hRel hP hD hS hl
      by_cases q29 : j = 29
      · subst q29
        refine lv_tableIn (off := 1111) (tgt := 1144) hx hb dL_law_33 (by decide) (by decide) (by rfl) (by decide) ?_
        exact lc_put hL C0 hZ hK Rel h29 ad I J A H locs ls i x3 ex3 hi kk hRel hP hD hS hl
      by_cases q30 : j = 30
      · subst q30
        refine lv_tableIn (off := 1154) (tgt := 1187) hx hb dL_law_33 (by decide) (by decide) (by rfl) (by decide) ?_
        exact lc_move hL C0 hZ hK Rel h30 ad I J A H locs ls i x3 ex3 hi kk hRel hP hD hS hl
      by_cases q31 : j = 31
      · subst q31
        refine lv_tableIn (off := 1217) (tgt := 1250) hx hb dL_law_33 (by decide) (by decide) (by rfl) (by decide) ?_
        exact lc_walls hL C0 hZ hK Rel h31 ad I J A H locs ls i x3 ex3 hi kk hRel hP hD hS hl
      by_cases q32 : j = 32
      · subst q32
        refine lv_tableIn (off := 1240) (tgt := 1273) hx hb dL_law_33 (by decide) (by decide) (by rfl) (by decide) ?_
        exact lc_judge hL C0 hZ hK Rel h32 ad I J A H locs ls i x3 ex3 hi kk hRel hP hD hS hl
      by_cases q33 : j = 33
      · subst q33
        refine lv_tableIn (off := 1263) (tgt := 1296) hx hb dL_law_33 (by decide) (by decide) (by rfl) (by decide) ?_
        exact lc_image hL C0 hZ hK Rel h33 ad I J A H locs ls i x3 ex3 hi kk hRel hP hD hS hl
      by_cases q34 : j = 34
      · subst q34
        refine lv_tableIn (off := 1276) (tgt := 1309) hx hb dL_law_33 (by decide) (by decide) (by rfl) (by decide) ?_
        exact lc_restore hL C0 hZ hK Rel h34 ad I J A H locs ls i x3 ex3 hi kk hRel hP hD hS hl
      by_cases q35 : j = 35
      · subst q35
        refine lv_tableIn (off := 1289) (tgt := 1322) hx hb dL_law_33 (by decide) (by decide) (by rfl) (by decide) ?_
        exact lc_tell hL C0 hZ hK Rel h35 ad I J A H locs ls i x3 ex3 hi kk hRel hP hD hS hl
      by_cases q36 : j = 36
      · subst q36
        refine lv_tableIn (off := 1312) (tgt := 1345) hx hb dL_law_33 (by decide) (by decide) (by rfl) (by decide) ?_
        exact lc_check hL C0 hZ hK Rel h36 ad I J A H locs ls i x3 ex3 hi kk hRel hP hD hS hl
      by_cases q37 : j = 37
      · subst q37
        refine lv_tableIn (off := 1325) (tgt := 1358) hx hb dL_law_33 (by decide) (by decide) (by rfl) (by decide) ?_
        exact lc_count hL C0 hZ hK Rel h37 ad I J A H locs ls i x3 ex3 hi kk hRel hP hD hS hl
      by_cases q38 : j = 38
      · subst q38
        refine lv_tableIn (off := 1348) (tgt := 1381) hx hb dL_law_33 (by decide) (by decide) (by rfl) (by decide) ?_
        exact lc_told hL C0 hZ hK Rel h38 ad I J A H locs ls i x3 ex3 hi kk hRel hP hD hS hl
      refine lv_tableOut (tgt := 1404) hx hb dL_law_33 (Or.inr (by rw [nI_toInt (by omega)]; omega)) (by decide) ?_
      exact kk I J A H locs ls hRel hP hD hS hl
