set_option maxRecDepth 20000 in
theorem innX1_wallAt_X1 : ∀ w ∈ u_ws RX1 TX1 10, w ∈ wsX1_wallAt := by decide +kernel
set_option maxRecDepth 20000 in
theorem innX1_setWall_X1 : ∀ w ∈ u_ws RX1 TX1 10, w ∈ wsX1_setWall := by decide +kernel
set_option maxRecDepth 20000 in
theorem innX4_work_X4 : ∀ w ∈ u_ws RX4 TX4 3, w ∈ wsX4_work := by decide +kernel
set_option maxRecDepth 20000 in
theorem innX3_learn_X3 : ∀ w ∈ u_ws RX3 TX3 2, w ∈ wsX3_learn := by decide +kernel
set_option maxHeartbeats 4000000 in
set_option maxRecDepth 100000 in
theorem c_Grid_isCell (l : Launch) (G : va_G) (cI cB : ClassId) (sz : Nat) (p0 : Int32) (ro : Int32) (ho : s_Grid_isCell p0 = some (ro)) : Met l yX0_isCell wsX0_isCell ({ frames := 0, cells := 0, slots := 0, locals := 0 } : Room) (va_Pc [.int p0] (j_P G cI cB sz [])) (va_Qi (fun (r : Int32) (_ : Unit) => r = ro) (fun _ t => j_B G cI cB (va_A [] sz) [] t) (va_A [] sz)) 0 0 (va_A [] sz) := by
  refine Met.ofW (cc := cX0_isCell) (maxL := 1) (ret := (some .boolean)) (by decide) rfl ?_
  intro p e s m args below meth c s₁ B hml hv
  obtain ⟨rfl, hsz, hP, hK, hD0⟩ := hv
  have hx := B.exec
  have hb := B.bytes
  have hr := B.returns
  have hts := atoms_spec (ws := wsX0_isCell) B.pre
  have hown : s.vm.findClass RX0 = some m.cls := findClass_of_methodNamed B.named
  have hlocks := B.notSynchronized
  subst hsz
  have hD := hD0.self (sz := s.heap.size)
  generalize hAe : va_A [] s.heap.size = A at hD ⊢
  have hA : ∀ q : Nat, s.heap.size ≤ q → A q := fun q h => by rw [← hAe]; exact Or.inr h
  have hS : va_S A s.heap s.heap [] := va_S.rf
  have hl := lv_entry ([.int p0]) (n := 1) (Nat.le_of_ble_eq_true rfl)
  rw [lg_entry_eq]
  generalize (lg_sl ([.int p0]) ++ List.replicate (1 - (lg_sl ([.int p0])).length) Slot.unset).toArray = ls at hl ⊢
  have hl : lv_has ls 1 [(0, .int p0)] := hl
  have main : ∀ Q : State → Prop, (∀ (pc : Nat) (H : Heap) (locs : List Loc) (ls : Array Slot) (r : Int32), decode cX0_isCell pc = .ok (.ireturn, 1) → (r = 0 ∨ r = 1) → some (r) = some (ro) → va_P G vwCl [] H → va_D A [] → va_S A s.heap H locs → W p l e ({ frames := 0, cells := 0, slots := 0, locals := 0 } : Room) s m ([.int p0] : List Value).toArray below meth c H locs 0 0 Q (F0 m pc ls [.int r])) → W p l e ({ frames := 0, cells := 0, slots := 0, locals := 0 } : Room) s m ([.int p0] : List Value).toArray below meth c s.heap [] 0 0 Q (F0 m 0 ls []) := by
    intro Q hret
    rw [s_Grid_isCell] at ho
    refine lv_iload_n hx hb dX0_isCell_0 rfl (lv_at hl 0 rfl) ?_
    refine lv_if_lt (tgt := 14) hx hb dX0_isCell_1 (by decide) (fun c_1 => ?_) (fun c_1 => ?_)
    · replace ho := j_ift c_1 ho
      refine lv_iconst (v := (0 : Int32)) hx hb dX0_isCell_14 (by decide) ?_
      exact hret 15 _ _ ls (0 : Int32) dX0_isCell_15 (Or.inl rfl) ho hP hD hS
    · replace ho := j_iff c_1 ho
      refine lv_iload_n hx hb dX0_isCell_4 rfl (lv_at hl 0 rfl) ?_
      refine lv_bipush (v := (36 : Int32)) hx hb dX0_isCell_5 (by decide) ?_
      refine lv_icmp_ge (tgt := 14) hx hb dX0_isCell_7 (by decide) (fun c_2 => ?_) (fun c_2 => ?_)
      · replace ho := j_ift c_2 ho
        refine lv_iconst (v := (0 : Int32)) hx hb dX0_isCell_14 (by decide) ?_
        exact hret 15 _ _ ls (0 : Int32) dX0_isCell_15 (Or.inl rfl) ho hP hD hS
      · replace ho := j_iff c_2 ho
        refine lv_iconst (v := (1 : Int32)) hx hb dX0_isCell_10 (by decide) ?_
        refine lv_goto (tgt := 15) hx hb dX0_isCell_11 (by decide) ?_
        exact hret 15 _ _ ls (1 : Int32) dX0_isCell_15 (Or.inr rfl) ho hP hD hS
  refine main _ (fun pc H locs ls r hd hz he hP hD hS => ?_)
  obtain rfl := Option.some.inj he
  exact W.zret (v := r) (ty := .boolean) hx hb hr (j_nz hz) (fun t ht hW => ⟨⟨r, (), rfl, rfl, by rw [ht]; exact hP, va_K.moved hW.alike hK, hD⟩, hS.F ht⟩) hS.2.2 hd

set_option maxHeartbeats 4000000 in
set_option maxRecDepth 100000 in
theorem c_Grid_isIn (l : Launch) (G : va_G) (cI cB : ClassId) (sz : Nat) (p0 : Int64) (p2 : Int32) (ro : Int32) (ho : s_Grid_isIn p0 p2 = some (ro)) : Met l yX0_isIn wsX0_isIn ({ frames := 0, cells := 0, slots := 0, locals := 0 } : Room) (va_Pc [.long p0, .int p2] (j_P G cI cB sz [])) (va_Qi (fun (r : Int32) (_ : Unit) => r = ro) (fun _ t => j_B G cI cB (va_A [] sz) [] t) (va_A [] sz)) 0 0 (va_A [] sz) := by
  refine Met.ofW (cc := cX0_isIn) (maxL := 3) (ret := (some .boolean)) (by decide) rfl ?_
  intro p e s m args below meth c s₁ B hml hv
  obtain ⟨rfl, hsz, hP, hK, hD0⟩ := hv
  have hx := B.exec
  have hb := B.bytes
  have hr := B.returns
  have hts := atoms_spec (ws := wsX0_isIn) B.pre
  have hown : s.vm.findClass RX0 = some m.cls := findClass_of_methodNamed B.named
  have hlocks := B.notSynchronized
  subst hsz
  have hD := hD0.self (sz := s.heap.size)
  generalize hAe : va_A [] s.heap.size = A at hD ⊢
  have hA : ∀ q : Nat, s.heap.size ≤ q → A q := fun q h => by rw [← hAe]; exact Or.inr h
  have hS : va_S A s.heap s.heap [] := va_S.rf
  have hl := lv_entry ([.long p0, .int p2]) (n := 3) (Nat.le_of_ble_eq_true rfl)
  rw [lg_entry_eq]
  generalize (lg_sl ([.long p0, .int p2]) ++ List.replicate (3 - (lg_sl ([.long p0, .int p2])).length) Slot.unset).toArray = ls at hl ⊢
  have hl : lv_has ls 3 [(0, .long p0), (2, .int p2)] := hl
  have main : ∀ Q : State → Prop, (∀ (pc : Nat) (H : Heap) (locs : List Loc) (ls : Array Slot) (r : Int32), decode cX0_isIn pc = .ok (.ireturn, 1) → (r = 0 ∨ r = 1) → some (r) = some (ro) → va_P G vwCl [] H → va_D A [] → va_S A s.heap H locs → W p l e ({ frames := 0, cells := 0, slots := 0, locals := 0 } : Room) s m ([.long p0, .int p2] : List Value).toArray below meth c H locs 0 0 Q (F0 m pc ls [.int r])) → W p l e ({ frames := 0, cells := 0, slots := 0, locals := 0 } : Room) s m ([.long p0, .int p2] : List Value).toArray below meth c s.heap [] 0 0 Q (F0 m 0 ls []) := by
    intro Q hret
    rw [s_Grid_isIn] at ho
    refine lv_lload_n hx hb dX0_isIn_0 rfl (lv_at hl 0 rfl) ?_
    refine lv_iload_n hx hb dX0_isIn_1 rfl (lv_at hl 1 rfl) ?_
    refine lv_lushr (v := (j_lushr p0 p2)) hx hb dX0_isIn_2 rfl ?_
    refine lv_lconst (v := (1 : Int64)) hx hb dX0_isIn_3 (by decide) ?_
    refine lv_land hx hb dX0_isIn_4 ?_
    refine lv_lconst (v := (0 : Int64)) hx hb dX0_isIn_5 (by decide) ?_
    refine W.lcmp hx hb dX0_isIn_6 ?_
    refine lv_if_eq (tgt := 14) hx hb dX0_isIn_7 (by decide) (fun c_1 => ?_) (fun c_1 => ?_)
    · replace ho := j_ift c_1 ho
      refine lv_iconst (v := (0 : Int32)) hx hb dX0_isIn_14 (by decide) ?_
      exact hret 15 _ _ ls (0 : Int32) dX0_isIn_15 (Or.inl rfl) ho hP hD hS
    · replace ho := j_iff c_1 ho
      refine lv_iconst (v := (1 : Int32)) hx hb dX0_isIn_10 (by decide) ?_
      refine lv_goto (tgt := 15) hx hb dX0_isIn_11 (by decide) ?_
      exact hret 15 _ _ ls (1 : Int32) dX0_isIn_15 (Or.inr rfl) ho hP hD hS
  refine main _ (fun pc H locs ls r hd hz he hP hD hS => ?_)
  obtain rfl := Option.some.inj he
  exact W.zret (v := r) (ty := .boolean) hx hb hr (j_nz hz) (fun t ht hW => ⟨⟨r, (), rfl, rfl, by rw [ht]; exact hP, va_K.moved hW.alike hK, hD⟩, hS.F ht⟩) hS.2.2 hd

set_option maxHeartbeats 4000000 in
set_option maxRecDepth 100000 in
theorem c_Grid_next (l : Launch) (G : va_G) (cI cB : ClassId) (sz : Nat) (p0 : Int32) (p1 : Int32) (ro : Int32) (ho : s_Grid_next p0 p1 = some (ro)) : Met l yX0_next wsX0_next ({ frames := 0, cells := 0, slots := 0, locals := 0 } : Room) (va_Pc [.int p0, .int p1] (j_P G cI cB sz [])) (va_Qi (fun (r : Int32) (_ : Unit) => r = ro) (fun _ t => j_B G cI cB (va_A [] sz) [] t) (va_A [] sz)) 0 0 (va_A [] sz) := by
  refine Met.ofW (cc := cX0_next) (maxL := 2) (ret := (some .int)) (by decide) rfl ?_
  intro p e s m args below meth c s₁ B hml hv
  obtain ⟨rfl, hsz, hP, hK, hD0⟩ := hv
  have hx := B.exec
  have hb := B.bytes
  have hr := B.returns
  have hts := atoms_spec (ws := wsX0_next) B.pre
  have hown : s.vm.findClass RX0 = some m.cls := findClass_of_methodNamed B.named
  have hlocks := B.notSynchronized
  subst hsz
  have hD := hD0.self (sz := s.heap.size)
  generalize hAe : va_A [] s.heap.size = A at hD ⊢
  have hA : ∀ q : Nat, s.heap.size ≤ q → A q := fun q h => by rw [← hAe]; exact Or.inr h
  have hS : va_S A s.heap s.heap [] := va_S.rf
  have hl := lv_entry ([.int p0, .int p1]) (n := 2) (Nat.le_of_ble_eq_true rfl)
  rw [lg_entry_eq]
  generalize (lg_sl ([.int p0, .int p1]) ++ List.replicate (2 - (lg_sl ([.int p0, .int p1])).length) Slot.unset).toArray = ls at hl ⊢
  have hl : lv_has ls 2 [(0, .int p0), (1, .int p1)] := hl
  have main : ∀ Q : State → Prop, (∀ (pc : Nat) (H : Heap) (locs : List Loc) (ls : Array Slot) (r : Int32), decode cX0_next pc = .ok (.ireturn, 1) → some (r) = some (ro) → va_P G vwCl [] H → va_D A [] → va_S A s.heap H locs → W p l e ({ frames := 0, cells := 0, slots := 0, locals := 0 } : Room) s m ([.int p0, .int p1] : List Value).toArray below meth c H locs 0 0 Q (F0 m pc ls [.int r])) → W p l e ({ frames := 0, cells := 0, slots := 0, locals := 0 } : Room) s m ([.int p0, .int p1] : List Value).toArray below meth c s.heap [] 0 0 Q (F0 m 0 ls []) := by
    intro Q hret
    rw [s_Grid_next] at ho
    refine lv_iload_n hx hb dX0_next_0 rfl (lv_at hl 1 rfl) ?_
    by_cases c_1 : p1 = (0 : Int32)
    · replace ho := j_ift c_1 ho
      refine lv_tableIn (off := 31) (tgt := 32) hx hb dX0_next_1 (by rw [c_1]; decide) (by rw [c_1]; decide) (by rw [c_1]; rfl) (by decide) ?_
      refine lv_iload_n hx hb dX0_next_32 rfl (lv_at hl 0 rfl) ?_
      refine lv_bipush (v := (6 : Int32)) hx hb dX0_next_33 (by decide) ?_
      refine lv_iadd hx hb dX0_next_35 ?_
      refine lv_bipush (v := (36 : Int32)) hx hb dX0_next_36 (by decide) ?_
      refine lv_icmp_ge (tgt := 48) hx hb dX0_next_38 (by decide) (fun c_2 => ?_) (fun c_2 => ?_)
      · replace ho := j_ift c_2 ho
        refine lv_iconst (v := (-1 : Int32)) hx hb dX0_next_48 (by decide) ?_
        exact hret 49 _ _ ls (-1 : Int32) dX0_next_49 ho hP hD hS
      · replace ho := j_iff c_2 ho
        refine lv_iload_n hx hb dX0_next_41 rfl (lv_at hl 0 rfl) ?_
        refine lv_bipush (v := (6 : Int32)) hx hb dX0_next_42 (by decide) ?_
        refine lv_iadd hx hb dX0_next_44 ?_
        refine lv_goto (tgt := 49) hx hb dX0_next_45 (by decide) ?_
        exact hret 49 _ _ ls ((p0 + (6 : Int32))) dX0_next_49 ho hP hD hS
    · replace ho := j_iff c_1 ho
      by_cases c_3 : p1 = (1 : Int32)
      · replace ho := j_ift c_3 ho
        refine lv_tableIn (off := 49) (tgt := 50) hx hb dX0_next_1 (by rw [c_3]; decide) (by rw [c_3]; decide) (by rw [c_3]; rfl) (by decide) ?_
        refine lv_iload_n hx hb dX0_next_50 rfl (lv_at hl 0 rfl) ?_
        refine lv_bipush (v := (6 : Int32)) hx hb dX0_next_51 (by decide) ?_
        refine lv_irem hx hb dX0_next_53 (by decide) ?_
        refine lv_if_le (tgt := 63) hx hb dX0_next_54 (by decide) (fun c_4 => ?_) (fun c_4 => ?_)
        · replace ho := j_ift c_4 ho
          refine lv_iconst (v := (-1 : Int32)) hx hb dX0_next_63 (by decide) ?_
          exact hret 64 _ _ ls (-1 : Int32) dX0_next_64 ho hP hD hS
        · replace ho := j_iff c_4 ho
          refine lv_iload_n hx hb dX0_next_57 rfl (lv_at hl 0 rfl) ?_
          refine lv_iconst (v := (1 : Int32)) hx hb dX0_next_58 (by decide) ?_
          refine lv_isub hx hb dX0_next_59 ?_
          refine lv_goto (tgt := 64) hx hb dX0_next_60 (by decide) ?_
          exact hret 64 _ _ ls ((p0 - (1 : Int32))) dX0_next_64 ho hP hD hS
      · replace ho := j_iff c_3 ho
        by_cases c_5 : p1 = (2 : Int32)
        · replace ho := j_ift c_5 ho
          refine lv_tableIn (off := 64) (tgt := 65) hx hb dX0_next_1 (by rw [c_5]; decide) (by rw [c_5]; decide) (by rw [c_5]; rfl) (by decide) ?_
          refine lv_iload_n hx hb dX0_next_65 rfl (lv_at hl 0 rfl) ?_
          refine lv_bipush (v := (6 : Int32)) hx hb dX0_next_66 (by decide) ?_
          refine lv_icmp_lt (tgt := 78) hx hb dX0_next_68 (by decide) (fun c_6 => ?_) (fun c_6 => ?_)
          · replace ho := j_ift c_6 ho
            refine lv_iconst (v := (-1 : Int32)) hx hb dX0_next_78 (by decide) ?_
            exact hret 79 _ _ ls (-1 : Int32) dX0_next_79 ho hP hD hS
          · replace ho := j_iff c_6 ho
            refine lv_iload_n hx hb dX0_next_71 rfl (lv_at hl 0 rfl) ?_
            refine lv_bipush (v := (6 : Int32)) hx hb dX0_next_72 (by decide) ?_
            refine lv_isub hx hb dX0_next_74 ?_
            refine lv_goto (tgt := 79) hx hb dX0_next_75 (by decide) ?_
            exact hret 79 _ _ ls ((p0 - (6 : Int32))) dX0_next_79 ho hP hD hS
        · replace ho := j_iff c_5 ho
          by_cases c_7 : p1 = (3 : Int32)
          · replace ho := j_ift c_7 ho
            refine lv_tableIn (off := 79) (tgt := 80) hx hb dX0_next_1 (by rw [c_7]; decide) (by rw [c_7]; decide) (by rw [c_7]; rfl) (by decide) ?_
            refine lv_iload_n hx hb dX0_next_80 rfl (lv_at hl 0 rfl) ?_
            refine lv_bipush (v := (6 : Int32)) hx hb dX0_next_81 (by decide) ?_
            refine lv_irem hx hb dX0_next_83 (by decide) ?_
            refine lv_iconst (v := (5 : Int32)) hx hb dX0_next_84 (by decide) ?_
            refine lv_icmp_ge (tgt := 94) hx hb dX0_next_85 (by decide) (fun c_8 => ?_) (fun c_8 => ?_)
            · replace ho := j_ift c_8 ho
              refine lv_iconst (v := (-1 : Int32)) hx hb dX0_next_94 (by decide) ?_
              exact hret 95 _ _ ls (-1 : Int32) dX0_next_95 ho hP hD hS
            · replace ho := j_iff c_8 ho
              refine lv_iload_n hx hb dX0_next_88 rfl (lv_at hl 0 rfl) ?_
              refine lv_iconst (v := (1 : Int32)) hx hb dX0_next_89 (by decide) ?_
              refine lv_iadd hx hb dX0_next_90 ?_
              refine lv_goto (tgt := 95) hx hb dX0_next_91 (by decide) ?_
              exact hret 95 _ _ ls ((p0 + (1 : Int32))) dX0_next_95 ho hP hD hS
          · replace ho := j_iff c_7 ho
            refine j_tableDef (tgt := 96) hx hb dX0_next_1 [0, 1, 2, 3] (by decide +kernel) (j_cons c_1 (by decide) (j_cons c_3 (by decide) (j_cons c_5 (by decide) (j_cons c_7 (by decide) j_nil)))) (by decide) ?_
            refine lv_iconst (v := (-1 : Int32)) hx hb dX0_next_96 (by decide) ?_
            exact hret 97 _ _ ls (-1 : Int32) dX0_next_97 ho hP hD hS
  refine main _ (fun pc H locs ls r hd he hP hD hS => ?_)
  obtain rfl := Option.some.inj he
  exact W.iret (v := r) hx hb hr (fun t ht hW => ⟨⟨r, (), rfl, rfl, by rw [ht]; exact hP, va_K.moved hW.alike hK, hD⟩, hS.F ht⟩) hS.2.2 hd

set_option maxHeartbeats 4000000 in
set_option maxRecDepth 100000 in
theorem c_Grid_rest (l : Launch) (G : va_G) (cI cB : ClassId) (sz : Nat) (p0 : Int64) (p2 : Int32) (p3 : Int32) (ro : Int32) (ho : s_Grid_rest p0 p2 p3 = some (ro)) : Met l yX0_rest wsX0_rest ({ frames := 1, cells := 0, slots := 0, locals := 22 } : Room) (va_Pc [.long p0, .int p2, .int p3] (j_P G cI cB sz [])) (va_Qi (fun (r : Int32) (_ : Unit) => r = ro) (fun _ t => j_B G cI cB (va_A [] sz) [] t) (va_A [] sz)) 0 0 (va_A [] sz) := by
  refine Met.ofW (cc := cX0_rest) (maxL := 7) (ret := (some .int)) (by decide) rfl ?_
  intro p e s m args below meth c s₁ B hml hv
  obtain ⟨rfl, hsz, hP, hK, hD0⟩ := hv
  have hx := B.exec
  have hb := B.bytes
  have hr := B.returns
  have hts := atoms_spec (ws := wsX0_rest) B.pre
  have hown : s.vm.findClass RX0 = some m.cls := findClass_of_methodNamed B.named
  have hlocks := B.notSynchronized
  subst hsz
  have hD := hD0.self (sz := s.heap.size)
  generalize hAe : va_A [] s.heap.size = A at hD ⊢
  have hA : ∀ q : Nat, s.heap.size ≤ q → A q := fun q h => by rw [← hAe]; exact Or.inr h
  have hS : va_S A s.heap s.heap [] := va_S.rf
  have hl := lv_entry ([.long p0, .int p2, .int p3]) (n := 7) (Nat.le_of_ble_eq_true rfl)
  rw [lg_entry_eq]
  generalize (lg_sl ([.long p0, .int p2, .int p3]) ++ List.replicate (7 - (lg_sl ([.long p0, .int p2, .int p3])).length) Slot.unset).toArray = ls at hl ⊢
  have hl : lv_has ls 7 [(0, .long p0), (2, .int p2), (3, .int p3)] := hl
  have main : ∀ Q : State → Prop, (∀ (pc : Nat) (H : Heap) (locs : List Loc) (ls : Array Slot) (r : Int32), decode cX0_rest pc = .ok (.ireturn, 1) → some (r) = some (ro) → va_P G vwCl [] H → va_D A [] → va_S A s.heap H locs → W p l e ({ frames := 1, cells := 0, slots := 0, locals := 22 } : Room) s m ([.long p0, .int p2, .int p3] : List Value).toArray below meth c H locs 0 0 Q (F0 m pc ls [.int r])) → W p l e ({ frames := 1, cells := 0, slots := 0, locals := 22 } : Room) s m ([.long p0, .int p2, .int p3] : List Value).toArray below meth c s.heap [] 0 0 Q (F0 m 0 ls []) := by
    intro Q hret
    rw [s_Grid_rest] at ho
    refine lv_iload_n hx hb dX0_rest_0 rfl (lv_at hl 1 rfl) ?_
    refine lv_istore (lv' := [(4, .int p2), (0, .long p0), (2, .int p2), (3, .int p3)]) hx hb dX0_rest_1 hl (by decide) rfl (fun ls hl => ?_)
    refine lv_iconst (v := (1 : Int32)) hx hb dX0_rest_3 (by decide) ?_
    refine lv_istore (lv' := [(5, .int (1 : Int32)), (4, .int p2), (0, .long p0), (2, .int p2), (3, .int p3)]) hx hb dX0_rest_4 hl (by decide) rfl (fun ls hl => ?_)
    have seg_6 : ∀ (n_6 : Nat) (x4_6 : Int32) (x5_6 : Int32) (H : Heap) (locs : List Loc) (ls : Array Slot), s_Grid_rest_c6 p0 p3 n_6 x4_6 x5_6 = some (ro) → va_P G vwCl [] H → va_D A [] → va_S A s.heap H locs → lv_has ls 7 [(0, .long p0), (3, .int p3), (4, .int x4_6), (5, .int x5_6)] → W p l e ({ frames := 1, cells := 0, slots := 0, locals := 22 } : Room) s m ([.long p0, .int p2, .int p3] : List Value).toArray below meth c H locs 0 0 Q (F0 m 6 ls []) := by
      intro n_6
      induction n_6 with
      | zero =>
        intro x4_6 x5_6 H locs ls ho hP hD hS hl
        rw [s_Grid_rest_c6] at ho
        cases ho
      | succ n_6 ih_6 =>
        intro x4_6 x5_6 H locs ls ho hP hD hS hl
        rw [s_Grid_rest_c6] at ho
        refine lv_iload hx hb dX0_rest_6 (lv_at hl 3 rfl) ?_
        refine lv_bipush (v := (6 : Int32)) hx hb dX0_rest_8 (by decide) ?_
        refine lv_icmp_ge (tgt := 48) hx hb dX0_rest_10 (by decide) (fun c_1 => ?_) (fun c_1 => ?_)
        · replace ho := j_ift c_1 ho
          refine lv_iload hx hb dX0_rest_48 (lv_at hl 2 rfl) ?_
          exact hret 50 _ _ ls x4_6 dX0_rest_50 ho hP hD hS
        · replace ho := j_iff c_1 ho
          refine lv_iload hx hb dX0_rest_13 (lv_at hl 2 rfl) ?_
          refine lv_iload_n hx hb dX0_rest_15 rfl (lv_at hl 1 rfl) ?_
          obtain ⟨r_2, hg_3, ho⟩ := j_b1_some ho
          refine j_ci (va_runS (As := [.int x4_6, .int p3]) (rest := []) ⟨hx, hb, hml, hown, hts⟩ (c_Grid_next l G cI cB H.size x4_6 p3 r_2 hg_3) (va_cwS 2 hts gX0_rest_X0_next rfl rfl rfl (by decide +kernel) ⟨Nat.le_of_ble_eq_true rfl, Nat.le_of_ble_eq_true rfl⟩) (j_preS hK hP hD [] (by decide) rfl) rfl rfl hl.1 rfl (lv_room (Nat.le_of_ble_eq_true rfl)) dX0_rest_16 ⟨Nat.le_refl _, Nat.le_refl _⟩) hP hD hS hA [] [] (wr := []) rfl rfl (by decide) (by decide) (fun H locs hP hD hS => ?_)
          have hP : va_P G vwCl [] H := hP
          have hD : va_D A [] := hD
          refine lv_istore (lv' := [(6, .int r_2), (0, .long p0), (3, .int p3), (4, .int x4_6), (5, .int x5_6)]) hx hb dX0_rest_19 hl (by decide) rfl (fun ls hl => ?_)
          refine lv_iload hx hb dX0_rest_21 (lv_at hl 0 rfl) ?_
          refine lv_if_lt (tgt := 35) hx hb dX0_rest_23 (by decide) (fun c_4 => ?_) (fun c_4 => ?_)
          · replace ho := j_ift c_4 ho
            refine lv_iload hx hb dX0_rest_35 (lv_at hl 3 rfl) ?_
            exact hret 37 _ _ ls x4_6 dX0_rest_37 ho hP hD hS
          · replace ho := j_iff c_4 ho
            refine lv_lload_n hx hb dX0_rest_26 rfl (lv_at hl 1 rfl) ?_
            refine lv_iload hx hb dX0_rest_27 (lv_at hl 0 rfl) ?_
            obtain ⟨r_5, hg_6, ho⟩ := j_b1_some ho
            refine j_ci (va_runS (As := [.long p0, .int r_2]) (rest := []) ⟨hx, hb, hml, hown, hts⟩ (c_Grid_isIn l G cI cB H.size p0 r_2 r_5 hg_6) (va_cwS 2 hts gX0_rest_X0_isIn rfl rfl rfl (by decide +kernel) ⟨Nat.le_of_ble_eq_true rfl, Nat.le_of_ble_eq_true rfl⟩) (j_preS hK hP hD [] (by decide) rfl) rfl rfl hl.1 rfl (lv_room (Nat.le_of_ble_eq_true rfl)) dX0_rest_29 ⟨Nat.le_refl _, Nat.le_refl _⟩) hP hD hS hA [] [] (wr := []) rfl rfl (by decide) (by decide) (fun H locs hP hD hS => ?_)
            have hP : va_P G vwCl [] H := hP
            have hD : va_D A [] := hD
            refine lv_if_eq (tgt := 38) hx hb dX0_rest_32 (by decide) (fun c_7 => ?_) (fun c_7 => ?_)
            · replace ho := j_ift c_7 ho
              refine lv_iload hx hb dX0_rest_38 (lv_at hl 0 rfl) ?_
              refine lv_istore (lv' := [(4, .int r_2), (6, .int r_2), (0, .long p0), (3, .int p3), (5, .int x5_6)]) hx hb dX0_rest_40 hl (by decide) rfl (fun ls hl => ?_)
              refine lv_iinc (v := (x5_6 + (1 : Int32))) (lv' := [(5, .int ((x5_6 + (1 : Int32)))), (4, .int r_2), (6, .int r_2), (0, .long p0), (3, .int p3)]) hx hb dX0_rest_42 hl (k := 4) rfl rfl (by decide) rfl (fun ls hl => ?_)
              refine lv_goto (tgt := 6) hx hb dX0_rest_45 (by decide) ?_
              exact ih_6 r_2 ((x5_6 + (1 : Int32))) _ _ ls ho hP hD hS (lv_sub hl [3, 4, 1, 0] rfl)
            · replace ho := j_iff c_7 ho
              refine lv_iload hx hb dX0_rest_35 (lv_at hl 3 rfl) ?_
              exact hret 37 _ _ ls x4_6 dX0_rest_37 ho hP hD hS
    exact seg_6 400 p2 (1 : Int32) _ _ ls ho hP hD hS (lv_sub hl [2, 4, 1, 0] rfl)
  refine main _ (fun pc H locs ls r hd he hP hD hS => ?_)
  obtain rfl := Option.some.inj he
  exact W.iret (v := r) hx hb hr (fun t ht hW => ⟨⟨r, (), rfl, rfl, by rw [ht]; exact hP, va_K.moved hW.alike hK, hD⟩, hS.F ht⟩) hS.2.2 hd

set_option maxHeartbeats 4000000 in
set_option maxRecDepth 100000 in
theorem c_House_wallAt (l : Launch) (G : va_G) (cI cB : ClassId) (h h_things h_tape h_pullLaw h_breakLaw h_waiting : Nat) (sz : Nat) (v_walls : Int64) (v_hour : Int32) (v_z : Int32) (v_tapeLength : Int32) (v_waits : Int32) (p1 : Int32) (ro : Int32) (ho : s_House_wallAt p1 v_walls = some (ro)) : Met l yX1_wallAt wsX1_wallAt ({ frames := 1, cells := 0, slots := 0, locals := 22 } : Room) (va_Pc [.ref h, .int p1] (j_P G cI cB sz [(h, .inr (0, [.ref h_things, .ref h_tape, .long v_walls, .int v_hour, .int v_z, .int v_tapeLength, .int v_waits, .ref h_pullLaw, .ref h_breakLaw, .ref h_waiting]))])) (va_Qi (fun (r : Int32) (_ : Unit) => r = ro) (fun _ t => j_B G cI cB (va_A [(h, .inr (0, [.ref h_things, .ref h_tape, .long v_walls, .int v_hour, .int v_z, .int v_tapeLength, .int v_waits, .ref h_pullLaw, .ref h_breakLaw, .ref h_waiting]))] sz) [(h, .inr (0, [.ref h_things, .ref h_tape, .long v_walls, .int v_hour, .int v_z, .int v_tapeLength, .int v_waits, .ref h_pullLaw, .ref h_breakLaw, .ref h_waiting]))] t) (va_A [(h, .inr (0, [.ref h_things, .ref h_tape, .long v_walls, .int v_hour, .int v_z, .int v_tapeLength, .int v_waits, .ref h_pullLaw, .ref h_breakLaw, .ref h_waiting]))] sz)) 0 0 (va_A [(h, .inr (0, [.ref h_things, .ref h_tape, .long v_walls, .int v_hour, .int v_z, .int v_tapeLength, .int v_waits, .ref h_pullLaw, .ref h_breakLaw, .ref h_waiting]))] sz) := by
  refine Met.ofW (cc := cX1_wallAt) (maxL := 2) (ret := (some .int)) (by decide) rfl ?_
  intro p e s m args below meth c s₁ B hml hv
  obtain ⟨rfl, hsz, hP, hK, hD0⟩ := hv
  have hx := B.exec
  have hb := B.bytes
  have hr := B.returns
  have hts := atoms_spec (ws := wsX1_wallAt) B.pre
  have hown : s.vm.findClass RX1 = some m.cls := findClass_of_methodNamed B.named
  have hlocks := B.notSynchronized
  subst hsz
  have hD := hD0.self (sz := s.heap.size)
  generalize hAe : va_A [(h, .inr (0, [.ref h_things, .ref h_tape, .long v_walls, .int v_hour, .int v_z, .int v_tapeLength, .int v_waits, .ref h_pullLaw, .ref h_breakLaw, .ref h_waiting]))] s.heap.size = A at hD ⊢
  have hA : ∀ q : Nat, s.heap.size ≤ q → A q := fun q h => by rw [← hAe]; exact Or.inr h
  have hS : va_S A s.heap s.heap [] := va_S.rf
  have hl := lv_entry ([.ref h, .int p1]) (n := 2) (Nat.le_of_ble_eq_true rfl)
  rw [lg_entry_eq]
  generalize (lg_sl ([.ref h, .int p1]) ++ List.replicate (2 - (lg_sl ([.ref h, .int p1])).length) Slot.unset).toArray = ls at hl ⊢
  have hl : lv_has ls 2 [(0, .ref h), (1, .int p1)] := hl
  have main : ∀ Q : State → Prop, (∀ (pc : Nat) (H : Heap) (locs : List Loc) (ls : Array Slot) (r : Int32), decode cX1_wallAt pc = .ok (.ireturn, 1) → some (r) = some (ro) → va_P G vwCl [(h, .inr (0, [.ref h_things, .ref h_tape, .long v_walls, .int v_hour, .int v_z, .int v_tapeLength, .int v_waits, .ref h_pullLaw, .ref h_breakLaw, .ref h_waiting]))] H → va_D A [(h, .inr (0, [.ref h_things, .ref h_tape, .long v_walls, .int v_hour, .int v_z, .int v_tapeLength, .int v_waits, .ref h_pullLaw, .ref h_breakLaw, .ref h_waiting]))] → va_S A s.heap H locs → W p l e ({ frames := 1, cells := 0, slots := 0, locals := 22 } : Room) s m ([.ref h, .int p1] : List Value).toArray below meth c H locs 0 0 Q (F0 m pc ls [.int r])) → W p l e ({ frames := 1, cells := 0, slots := 0, locals := 22 } : Room) s m ([.ref h, .int p1] : List Value).toArray below meth c s.heap [] 0 0 Q (F0 m 0 ls []) := by
    intro Q hret
    rw [s_House_wallAt] at ho
    refine lv_aload_n hx hb dX1_wallAt_0 rfl (lv_at hl 0 rfl) ?_
    refine va_get (D := G) (ci := 0) (v := .long v_walls) (C := RX1) (T := TX1) (N := 10) hx hb hts innX1_wallAt_X1 hown hK hP 0 rfl rfl 2 (by decide) (hts (.fieldLink RX1 20 "DownByTheHour$House" "walls" "J") (by decide +kernel)) (fun _ h9 => h9) rfl dX1_wallAt_1 ?_
    refine lv_iload_n hx hb dX1_wallAt_4 rfl (lv_at hl 1 rfl) ?_
    obtain ⟨r_1, hg_2, ho⟩ := j_b1_some ho
    refine j_ci (va_runS (As := [.long v_walls, .int p1]) (rest := []) ⟨hx, hb, hml, hown, hts⟩ (c_Grid_isIn l G cI cB s.heap.size v_walls p1 r_1 hg_2) (va_cwS 2 hts gX1_wallAt_X0_isIn rfl rfl rfl (by decide +kernel) ⟨Nat.le_of_ble_eq_true rfl, Nat.le_of_ble_eq_true rfl⟩) (j_preS hK hP hD [] (by decide) rfl) rfl rfl hl.1 rfl (lv_room (Nat.le_of_ble_eq_true rfl)) dX1_wallAt_5 ⟨Nat.le_refl _, Nat.le_refl _⟩) hP hD hS hA [] [0] (wr := [(h, .inr (0, [.ref h_things, .ref h_tape, .long v_walls, .int v_hour, .int v_z, .int v_tapeLength, .int v_waits, .ref h_pullLaw, .ref h_breakLaw, .ref h_waiting]))]) rfl rfl (by decide) (by decide) (fun H locs hP hD hS => ?_)
    have hP : va_P G vwCl [(h, .inr (0, [.ref h_things, .ref h_tape, .long v_walls, .int v_hour, .int v_z, .int v_tapeLength, .int v_waits, .ref h_pullLaw, .ref h_breakLaw, .ref h_waiting]))] H := hP
    have hD : va_D A [(h, .inr (0, [.ref h_things, .ref h_tape, .long v_walls, .int v_hour, .int v_z, .int v_tapeLength, .int v_waits, .ref h_pullLaw, .ref h_breakLaw, .ref h_waiting]))] := hD
    refine lv_if_eq (tgt := 15) hx hb dX1_wallAt_8 (by decide) (fun c_3 => ?_) (fun c_3 => ?_)
    · replace ho := j_ift c_3 ho
      refine lv_iconst (v := (0 : Int32)) hx hb dX1_wallAt_15 (by decide) ?_
      exact hret 16 _ _ ls (0 : Int32) dX1_wallAt_16 ho hP hD hS
    · replace ho := j_iff c_3 ho
      refine lv_iconst (v := (1 : Int32)) hx hb dX1_wallAt_11 (by decide) ?_
      refine lv_goto (tgt := 16) hx hb dX1_wallAt_12 (by decide) ?_
      exact hret 16 _ _ ls (1 : Int32) dX1_wallAt_16 ho hP hD hS
  refine main _ (fun pc H locs ls r hd he hP hD hS => ?_)
  obtain rfl := Option.some.inj he
  exact W.iret (v := r) hx hb hr (fun t ht hW => ⟨⟨r, (), rfl, rfl, by rw [ht]; exact hP, va_K.moved hW.alike hK, hD⟩, hS.F ht⟩) hS.2.2 hd

set_option maxHeartbeats 4000000 in
set_option maxRecDepth 100000 in
theorem c_House_setWall (l : Launch) (G : va_G) (cI cB : ClassId) (h h_things h_tape h_pullLaw h_breakLaw h_waiting : Nat) (sz : Nat) (v_walls : Int64) (v_hour : Int32) (v_z : Int32) (v_tapeLength : Int32) (v_waits : Int32) (p1 : Int32) (p2 : Int32) (o_v_walls : Int64) (ho : s_House_setWall p1 p2 v_walls = some (o_v_walls)) : Met l yX1_setWall wsX1_setWall ({ frames := 0, cells := 0, slots := 0, locals := 0 } : Room) (va_Pc [.ref h, .int p1, .int p2] (j_P G cI cB sz [(h, .inr (0, [.ref h_things, .ref h_tape, .long v_walls, .int v_hour, .int v_z, .int v_tapeLength, .int v_waits, .ref h_pullLaw, .ref h_breakLaw, .ref h_waiting]))])) (va_Qv (fun (_ : Unit) => True) (fun _ t => j_B G cI cB (va_A [(h, .inr (0, [.ref h_things, .ref h_tape, .long v_walls, .int v_hour, .int v_z, .int v_tapeLength, .int v_waits, .ref h_pullLaw, .ref h_breakLaw, .ref h_waiting]))] sz) [(h, .inr (0, [.ref h_things, .ref h_tape, .long o_v_walls, .int v_hour, .int v_z, .int v_tapeLength, .int v_waits, .ref h_pullLaw, .ref h_breakLaw, .ref h_waiting]))] t) (va_A [(h, .inr (0, [.ref h_things, .ref h_tape, .long v_walls, .int v_hour, .int v_z, .int v_tapeLength, .int v_waits, .ref h_pullLaw, .ref h_breakLaw, .ref h_waiting]))] sz)) 0 0 (va_A [(h, .inr (0, [.ref h_things, .ref h_tape, .long v_walls, .int v_hour, .int v_z, .int v_tapeLength, .int v_waits, .ref h_pullLaw, .ref h_breakLaw, .ref h_waiting]))] sz) := by
  refine Met.ofW (cc := cX1_setWall) (maxL := 3) (ret := none) (by decide) rfl ?_
  intro p e s m args below meth c s₁ B hml hv
  obtain ⟨rfl, hsz, hP, hK, hD0⟩ := hv
  have hx := B.exec
  have hb := B.bytes
  have hr := B.returns
  have hts := atoms_spec (ws := wsX1_setWall) B.pre
  have hown : s.vm.findClass RX1 = some m.cls := findClass_of_methodNamed B.named
  have hlocks := B.notSynchronized
  subst hsz
  have hD := hD0.self (sz := s.heap.size)
  generalize hAe : va_A [(h, .inr (0, [.ref h_things, .ref h_tape, .long v_walls, .int v_hour, .int v_z, .int v_tapeLength, .int v_waits, .ref h_pullLaw, .ref h_breakLaw, .ref h_waiting]))] s.heap.size = A at hD ⊢
  have hA : ∀ q : Nat, s.heap.size ≤ q → A q := fun q h => by rw [← hAe]; exact Or.inr h
  have hS : va_S A s.heap s.heap [] := va_S.rf
  have hl := lv_entry ([.ref h, .int p1, .int p2]) (n := 3) (Nat.le_of_ble_eq_true rfl)
  rw [lg_entry_eq]
  generalize (lg_sl ([.ref h, .int p1, .int p2]) ++ List.replicate (3 - (lg_sl ([.ref h, .int p1, .int p2])).length) Slot.unset).toArray = ls at hl ⊢
  have hl : lv_has ls 3 [(0, .ref h), (1, .int p1), (2, .int p2)] := hl
  have main : ∀ Q : State → Prop, (∀ (pc : Nat) (H : Heap) (locs : List Loc) (ls : Array Slot) (u_v_walls : Int64), decode cX1_setWall pc = .ok (.return_, 1) → some (u_v_walls) = some (o_v_walls) → va_P G vwCl [(h, .inr (0, [.ref h_things, .ref h_tape, .long u_v_walls, .int v_hour, .int v_z, .int v_tapeLength, .int v_waits, .ref h_pullLaw, .ref h_breakLaw, .ref h_waiting]))] H → va_D A [(h, .inr (0, [.ref h_things, .ref h_tape, .long u_v_walls, .int v_hour, .int v_z, .int v_tapeLength, .int v_waits, .ref h_pullLaw, .ref h_breakLaw, .ref h_waiting]))] → va_S A s.heap H locs → W p l e ({ frames := 0, cells := 0, slots := 0, locals := 0 } : Room) s m ([.ref h, .int p1, .int p2] : List Value).toArray below meth c H locs 0 0 Q (F0 m pc ls [])) → W p l e ({ frames := 0, cells := 0, slots := 0, locals := 0 } : Room) s m ([.ref h, .int p1, .int p2] : List Value).toArray below meth c s.heap [] 0 0 Q (F0 m 0 ls []) := by
    intro Q hret
    rw [s_House_setWall] at ho
    refine lv_iload_n hx hb dX1_setWall_0 rfl (lv_at hl 2 rfl) ?_
    refine lv_iconst (v := (1 : Int32)) hx hb dX1_setWall_1 (by decide) ?_
    refine lv_icmp_ne (tgt := 20) hx hb dX1_setWall_2 (by decide) (fun c_1 => ?_) (fun c_1 => ?_)
    · replace ho := j_iff c_1 ho
      refine lv_aload_n hx hb dX1_setWall_20 rfl (lv_at hl 0 rfl) ?_
      refine lv_dup hx hb dX1_setWall_21 rfl ?_
      refine va_get (D := G) (ci := 0) (v := .long v_walls) (C := RX1) (T := TX1) (N := 10) hx hb hts innX1_setWall_X1 hown hK hP 0 rfl rfl 2 (by decide) (hts (.fieldLink RX1 20 "DownByTheHour$House" "walls" "J") (by decide +kernel)) (fun _ h9 => h9) rfl dX1_setWall_22 ?_
      refine lv_lconst (v := (1 : Int64)) hx hb dX1_setWall_25 (by decide) ?_
      refine lv_iload_n hx hb dX1_setWall_26 rfl (lv_at hl 1 rfl) ?_
      refine lv_lshl (v := (j_lshl (1 : Int64) p1)) hx hb dX1_setWall_27 rfl ?_
      refine lv_ldc2 (v := (-1 : Int64)) hx hb hown (hts (.constantLong RX1 57 (-1 : Int64)) (by decide +kernel)) dX1_setWall_28 ?_
      refine lv_lxor hx hb dX1_setWall_31 ?_
      refine lv_land hx hb dX1_setWall_32 ?_
      refine va_put (D := G) (ci := 0) (v := .long ((v_walls &&& ((j_lshl (1 : Int64) p1) ^^^ (-1 : Int64))))) (ty := .long) (C := RX1) (T := TX1) (N := 10) hx hb hts innX1_setWall_X1 tyX1 tyX1_ok nmX1 hown hK hP hD hS 0 rfl rfl 2 (by decide) (hts (.fieldLink RX1 20 "DownByTheHour$House" "walls" "J") (by decide +kernel)) (fun _ h9 => h9) rfl (by decide +kernel) rfl rfl (Nat.le_of_ble_eq_true rfl) dX1_setWall_33 (fun H locs hP hD hS => ?_)
      have hP : va_P G vwCl [(h, .inr (0, [.ref h_things, .ref h_tape, .long ((v_walls &&& ((j_lshl (1 : Int64) p1) ^^^ (-1 : Int64)))), .int v_hour, .int v_z, .int v_tapeLength, .int v_waits, .ref h_pullLaw, .ref h_breakLaw, .ref h_waiting]))] H := hP
      have hD : va_D A [(h, .inr (0, [.ref h_things, .ref h_tape, .long ((v_walls &&& ((j_lshl (1 : Int64) p1) ^^^ (-1 : Int64)))), .int v_hour, .int v_z, .int v_tapeLength, .int v_waits, .ref h_pullLaw, .ref h_breakLaw, .ref h_waiting]))] := hD
      exact hret 36 _ _ ls ((v_walls &&& ((j_lshl (1 : Int64) p1) ^^^ (-1 : Int64)))) dX1_setWall_36 ho hP hD hS
    · replace ho := j_ift c_1 ho
      refine lv_aload_n hx hb dX1_setWall_5 rfl (lv_at hl 0 rfl) ?_
      refine lv_dup hx hb dX1_setWall_6 rfl ?_
      refine va_get (D := G) (ci := 0) (v := .long v_walls) (C := RX1) (T := TX1) (N := 10) hx hb hts innX1_setWall_X1 hown hK hP 0 rfl rfl 2 (by decide) (hts (.fieldLink RX1 20 "DownByTheHour$House" "walls" "J") (by decide +kernel)) (fun _ h9 => h9) rfl dX1_setWall_7 ?_
      refine lv_lconst (v := (1 : Int64)) hx hb dX1_setWall_10 (by decide) ?_
      refine lv_iload_n hx hb dX1_setWall_11 rfl (lv_at hl 1 rfl) ?_
      refine lv_lshl (v := (j_lshl (1 : Int64) p1)) hx hb dX1_setWall_12 rfl ?_
      refine lv_lor hx hb dX1_setWall_13 ?_
      refine va_put (D := G) (ci := 0) (v := .long ((v_walls ||| (j_lshl (1 : Int64) p1)))) (ty := .long) (C := RX1) (T := TX1) (N := 10) hx hb hts innX1_setWall_X1 tyX1 tyX1_ok nmX1 hown hK hP hD hS 0 rfl rfl 2 (by decide) (hts (.fieldLink RX1 20 "DownByTheHour$House" "walls" "J") (by decide +kernel)) (fun _ h9 => h9) rfl (by decide +kernel) rfl rfl (Nat.le_of_ble_eq_true rfl) dX1_setWall_14 (fun H locs hP hD hS => ?_)
      have hP : va_P G vwCl [(h, .inr (0, [.ref h_things, .ref h_tape, .long ((v_walls ||| (j_lshl (1 : Int64) p1))), .int v_hour, .int v_z, .int v_tapeLength, .int v_waits, .ref h_pullLaw, .ref h_breakLaw, .ref h_waiting]))] H := hP
      have hD : va_D A [(h, .inr (0, [.ref h_things, .ref h_tape, .long ((v_walls ||| (j_lshl (1 : Int64) p1))), .int v_hour, .int v_z, .int v_tapeLength, .int v_waits, .ref h_pullLaw, .ref h_breakLaw, .ref h_waiting]))] := hD
      refine lv_goto (tgt := 36) hx hb dX1_setWall_17 (by decide) ?_
      exact hret 36 _ _ ls ((v_walls ||| (j_lshl (1 : Int64) p1))) dX1_setWall_36 ho hP hD hS
  refine main _ (fun pc H locs ls u_v_walls hd he hP hD hS => ?_)
  obtain rfl := Option.some.inj he
  exact W.vret hx hb hr (fun t ht hW => ⟨⟨(), rfl, trivial, by rw [ht]; exact hP, va_K.moved hW.alike hK, hD⟩, hS.F ht⟩) hS.2.2 hd

set_option maxHeartbeats 4000000 in
set_option maxRecDepth 100000 in
theorem c_Law_joined (l : Launch) (G : va_G) (cI cB : ClassId) (sz : Nat) (p0 : Int32) (p1 : Int32) (p2 : Int32) (ro : Int32) (ho : s_Law_joined p0 p1 p2 = some (ro)) : Met l yX4_joined wsX4_joined ({ frames := 0, cells := 0, slots := 0, locals := 0 } : Room) (va_Pc [.int p0, .int p1, .int p2] (j_P G cI cB sz [])) (va_Qi (fun (r : Int32) (_ : Unit) => r = ro) (fun _ t => j_B G cI cB (va_A [] sz) [] t) (va_A [] sz)) 0 0 (va_A [] sz) := by
  refine Met.ofW (cc := cX4_joined) (maxL := 3) (ret := (some .int)) (by decide) rfl ?_
  intro p e s m args below meth c s₁ B hml hv
  obtain ⟨rfl, hsz, hP, hK, hD0⟩ := hv
  have hx := B.exec
  have hb := B.bytes
  have hr := B.returns
  have hts := atoms_spec (ws := wsX4_joined) B.pre
  have hown : s.vm.findClass RX4 = some m.cls := findClass_of_methodNamed B.named
  have hlocks := B.notSynchronized
  subst hsz
  have hD := hD0.self (sz := s.heap.size)
  generalize hAe : va_A [] s.heap.size = A at hD ⊢
  have hA : ∀ q : Nat, s.heap.size ≤ q → A q := fun q h => by rw [← hAe]; exact Or.inr h
  have hS : va_S A s.heap s.heap [] := va_S.rf
  have hl := lv_entry ([.int p0, .int p1, .int p2]) (n := 3) (Nat.le_of_ble_eq_true rfl)
  rw [lg_entry_eq]
  generalize (lg_sl ([.int p0, .int p1, .int p2]) ++ List.replicate (3 - (lg_sl ([.int p0, .int p1, .int p2])).length) Slot.unset).toArray = ls at hl ⊢
  have hl : lv_has ls 3 [(0, .int p0), (1, .int p1), (2, .int p2)] := hl
  have main : ∀ Q : State → Prop, (∀ (pc : Nat) (H : Heap) (locs : List Loc) (ls : Array Slot) (r : Int32), decode cX4_joined pc = .ok (.ireturn, 1) → some (r) = some (ro) → va_P G vwCl [] H → va_D A [] → va_S A s.heap H locs → W p l e ({ frames := 0, cells := 0, slots := 0, locals := 0 } : Room) s m ([.int p0, .int p1, .int p2] : List Value).toArray below meth c H locs 0 0 Q (F0 m pc ls [.int r])) → W p l e ({ frames := 0, cells := 0, slots := 0, locals := 0 } : Room) s m ([.int p0, .int p1, .int p2] : List Value).toArray below meth c s.heap [] 0 0 Q (F0 m 0 ls []) := by
    intro Q hret
    rw [s_Law_joined] at ho
    refine lv_iload_n hx hb dX4_joined_0 rfl (lv_at hl 0 rfl) ?_
    by_cases c_1 : p0 = (37 : Int32)
    · replace ho := j_ift c_1 ho
      refine lv_lookup (off := 176) (tgt := 177) hx hb dX4_joined_1 (by decide) (by rw [c_1]; rfl) (by decide) ?_
      refine lv_iload_n hx hb dX4_joined_177 rfl (lv_at hl 2 rfl) ?_
      refine lv_if_ne (tgt := 185) hx hb dX4_joined_178 (by decide) (fun c_2 => ?_) (fun c_2 => ?_)
      · replace ho := j_iff c_2 ho
        refine lv_iload_n hx hb dX4_joined_185 rfl (lv_at hl 1 rfl) ?_
        refine lv_iload_n hx hb dX4_joined_186 rfl (lv_at hl 2 rfl) ?_
        obtain ⟨hi_3, ho⟩ := j_dv_some ho
        refine lv_irem hx hb dX4_joined_187 hi_3 ?_
        exact hret 188 _ _ ls (p1 - p1 / p2 * p2) dX4_joined_188 ho hP hD hS
      · replace ho := j_ift c_2 ho
        refine lv_iconst (v := (0 : Int32)) hx hb dX4_joined_181 (by decide) ?_
        refine lv_goto (tgt := 188) hx hb dX4_joined_182 (by decide) ?_
        exact hret 188 _ _ ls (0 : Int32) dX4_joined_188 ho hP hD hS
    · replace ho := j_iff c_1 ho
      by_cases c_4 : p0 = (38 : Int32)
      · replace ho := j_ift c_4 ho
        refine lv_lookup (off := 105) (tgt := 106) hx hb dX4_joined_1 (by decide) (by rw [c_4]; rfl) (by decide) ?_
        refine lv_iload_n hx hb dX4_joined_106 rfl (lv_at hl 1 rfl) ?_
        refine lv_if_eq (tgt := 118) hx hb dX4_joined_107 (by decide) (fun c_5 => ?_) (fun c_5 => ?_)
        · replace ho := j_ift c_5 ho
          refine lv_iconst (v := (0 : Int32)) hx hb dX4_joined_118 (by decide) ?_
          exact hret 119 _ _ ls (0 : Int32) dX4_joined_119 ho hP hD hS
        · replace ho := j_iff c_5 ho
          refine lv_iload_n hx hb dX4_joined_110 rfl (lv_at hl 2 rfl) ?_
          refine lv_if_eq (tgt := 118) hx hb dX4_joined_111 (by decide) (fun c_6 => ?_) (fun c_6 => ?_)
          · replace ho := j_ift c_6 ho
            refine lv_iconst (v := (0 : Int32)) hx hb dX4_joined_118 (by decide) ?_
            exact hret 119 _ _ ls (0 : Int32) dX4_joined_119 ho hP hD hS
          · replace ho := j_iff c_6 ho
            refine lv_iconst (v := (1 : Int32)) hx hb dX4_joined_114 (by decide) ?_
            refine lv_goto (tgt := 119) hx hb dX4_joined_115 (by decide) ?_
            exact hret 119 _ _ ls (1 : Int32) dX4_joined_119 ho hP hD hS
      · replace ho := j_iff c_4 ho
        by_cases c_7 : p0 = (42 : Int32)
        · replace ho := j_ift c_7 ho
          refine lv_lookup (off := 160) (tgt := 161) hx hb dX4_joined_1 (by decide) (by rw [c_7]; rfl) (by decide) ?_
          refine lv_iload_n hx hb dX4_joined_161 rfl (lv_at hl 1 rfl) ?_
          refine lv_iload_n hx hb dX4_joined_162 rfl (lv_at hl 2 rfl) ?_
          refine lv_imul hx hb dX4_joined_163 ?_
          exact hret 164 _ _ ls (p1 * p2) dX4_joined_164 ho hP hD hS
        · replace ho := j_iff c_7 ho
          by_cases c_8 : p0 = (43 : Int32)
          · replace ho := j_ift c_8 ho
            refine lv_lookup (off := 152) (tgt := 153) hx hb dX4_joined_1 (by decide) (by rw [c_8]; rfl) (by decide) ?_
            refine lv_iload_n hx hb dX4_joined_153 rfl (lv_at hl 1 rfl) ?_
            refine lv_iload_n hx hb dX4_joined_154 rfl (lv_at hl 2 rfl) ?_
            refine lv_iadd hx hb dX4_joined_155 ?_
            exact hret 156 _ _ ls (p1 + p2) dX4_joined_156 ho hP hD hS
          · replace ho := j_iff c_8 ho
            by_cases c_9 : p0 = (45 : Int32)
            · replace ho := j_ift c_9 ho
              refine lv_lookup (off := 156) (tgt := 157) hx hb dX4_joined_1 (by decide) (by rw [c_9]; rfl) (by decide) ?_
              refine lv_iload_n hx hb dX4_joined_157 rfl (lv_at hl 1 rfl) ?_
              refine lv_iload_n hx hb dX4_joined_158 rfl (lv_at hl 2 rfl) ?_
              refine lv_isub hx hb dX4_joined_159 ?_
              exact hret 160 _ _ ls (p1 - p2) dX4_joined_160 ho hP hD hS
            · replace ho := j_iff c_9 ho
              by_cases c_10 : p0 = (47 : Int32)
              · replace ho := j_ift c_10 ho
                refine lv_lookup (off := 164) (tgt := 165) hx hb dX4_joined_1 (by decide) (by rw [c_10]; rfl) (by decide) ?_
                refine lv_iload_n hx hb dX4_joined_165 rfl (lv_at hl 2 rfl) ?_
                refine lv_if_ne (tgt := 173) hx hb dX4_joined_166 (by decide) (fun c_11 => ?_) (fun c_11 => ?_)
                · replace ho := j_iff c_11 ho
                  refine lv_iload_n hx hb dX4_joined_173 rfl (lv_at hl 1 rfl) ?_
                  refine lv_iload_n hx hb dX4_joined_174 rfl (lv_at hl 2 rfl) ?_
                  obtain ⟨hi_12, ho⟩ := j_dv_some ho
                  refine lv_idiv hx hb dX4_joined_175 hi_12 ?_
                  exact hret 176 _ _ ls (p1 / p2) dX4_joined_176 ho hP hD hS
                · replace ho := j_ift c_11 ho
                  refine lv_iconst (v := (0 : Int32)) hx hb dX4_joined_169 (by decide) ?_
                  refine lv_goto (tgt := 176) hx hb dX4_joined_170 (by decide) ?_
                  exact hret 176 _ _ ls (0 : Int32) dX4_joined_176 ho hP hD hS
              · replace ho := j_iff c_10 ho
                by_cases c_13 : p0 = (60 : Int32)
                · replace ho := j_ift c_13 ho
                  refine lv_lookup (off := 119) (tgt := 120) hx hb dX4_joined_1 (by decide) (by rw [c_13]; rfl) (by decide) ?_
                  refine lv_iload_n hx hb dX4_joined_120 rfl (lv_at hl 1 rfl) ?_
                  refine lv_iload_n hx hb dX4_joined_121 rfl (lv_at hl 2 rfl) ?_
                  refine lv_icmp_ge (tgt := 129) hx hb dX4_joined_122 (by decide) (fun c_14 => ?_) (fun c_14 => ?_)
                  · replace ho := j_ift c_14 ho
                    refine lv_iconst (v := (0 : Int32)) hx hb dX4_joined_129 (by decide) ?_
                    exact hret 130 _ _ ls (0 : Int32) dX4_joined_130 ho hP hD hS
                  · replace ho := j_iff c_14 ho
                    refine lv_iconst (v := (1 : Int32)) hx hb dX4_joined_125 (by decide) ?_
                    refine lv_goto (tgt := 130) hx hb dX4_joined_126 (by decide) ?_
                    exact hret 130 _ _ ls (1 : Int32) dX4_joined_130 ho hP hD hS
                · replace ho := j_iff c_13 ho
                  by_cases c_15 : p0 = (61 : Int32)
                  · replace ho := j_ift c_15 ho
                    refine lv_lookup (off := 130) (tgt := 131) hx hb dX4_joined_1 (by decide) (by rw [c_15]; rfl) (by decide) ?_
                    refine lv_iload_n hx hb dX4_joined_131 rfl (lv_at hl 1 rfl) ?_
                    refine lv_iload_n hx hb dX4_joined_132 rfl (lv_at hl 2 rfl) ?_
                    refine lv_icmp_ne (tgt := 140) hx hb dX4_joined_133 (by decide) (fun c_16 => ?_) (fun c_16 => ?_)
                    · replace ho := j_iff c_16 ho
                      refine lv_iconst (v := (0 : Int32)) hx hb dX4_joined_140 (by decide) ?_
                      exact hret 141 _ _ ls (0 : Int32) dX4_joined_141 ho hP hD hS
                    · replace ho := j_ift c_16 ho
                      refine lv_iconst (v := (1 : Int32)) hx hb dX4_joined_136 (by decide) ?_
                      refine lv_goto (tgt := 141) hx hb dX4_joined_137 (by decide) ?_
                      exact hret 141 _ _ ls (1 : Int32) dX4_joined_141 ho hP hD hS
                  · replace ho := j_iff c_15 ho
                    by_cases c_17 : p0 = (62 : Int32)
                    · replace ho := j_ift c_17 ho
                      refine lv_lookup (off := 141) (tgt := 142) hx hb dX4_joined_1 (by decide) (by rw [c_17]; rfl) (by decide) ?_
                      refine lv_iload_n hx hb dX4_joined_142 rfl (lv_at hl 1 rfl) ?_
                      refine lv_iload_n hx hb dX4_joined_143 rfl (lv_at hl 2 rfl) ?_
                      refine lv_icmp_le (tgt := 151) hx hb dX4_joined_144 (by decide) (fun c_18 => ?_) (fun c_18 => ?_)
                      · replace ho := j_ift c_18 ho
                        refine lv_iconst (v := (0 : Int32)) hx hb dX4_joined_151 (by decide) ?_
                        exact hret 152 _ _ ls (0 : Int32) dX4_joined_152 ho hP hD hS
                      · replace ho := j_iff c_18 ho
                        refine lv_iconst (v := (1 : Int32)) hx hb dX4_joined_147 (by decide) ?_
                        refine lv_goto (tgt := 152) hx hb dX4_joined_148 (by decide) ?_
                        exact hret 152 _ _ ls (1 : Int32) dX4_joined_152 ho hP hD hS
                    · replace ho := j_iff c_17 ho
                      by_cases c_19 : p0 = (124 : Int32)
                      · replace ho := j_ift c_19 ho
                        refine lv_lookup (off := 91) (tgt := 92) hx hb dX4_joined_1 (by decide) (by rw [c_19]; rfl) (by decide) ?_
                        refine lv_iload_n hx hb dX4_joined_92 rfl (lv_at hl 1 rfl) ?_
                        refine lv_if_ne (tgt := 100) hx hb dX4_joined_93 (by decide) (fun c_20 => ?_) (fun c_20 => ?_)
                        · replace ho := j_iff c_20 ho
                          refine lv_iconst (v := (1 : Int32)) hx hb dX4_joined_100 (by decide) ?_
                          refine lv_goto (tgt := 105) hx hb dX4_joined_101 (by decide) ?_
                          exact hret 105 _ _ ls (1 : Int32) dX4_joined_105 ho hP hD hS
                        · replace ho := j_ift c_20 ho
                          refine lv_iload_n hx hb dX4_joined_96 rfl (lv_at hl 2 rfl) ?_
                          refine lv_if_eq (tgt := 104) hx hb dX4_joined_97 (by decide) (fun c_21 => ?_) (fun c_21 => ?_)
                          · replace ho := j_ift c_21 ho
                            refine lv_iconst (v := (0 : Int32)) hx hb dX4_joined_104 (by decide) ?_
                            exact hret 105 _ _ ls (0 : Int32) dX4_joined_105 ho hP hD hS
                          · replace ho := j_iff c_21 ho
                            refine lv_iconst (v := (1 : Int32)) hx hb dX4_joined_100 (by decide) ?_
                            refine lv_goto (tgt := 105) hx hb dX4_joined_101 (by decide) ?_
                            exact hret 105 _ _ ls (1 : Int32) dX4_joined_105 ho hP hD hS
                      · replace ho := j_iff c_19 ho
                        refine lv_lookup (off := 188) (tgt := 189) hx hb dX4_joined_1 (by decide) (j_lookN [37, 38, 42, 43, 45, 47, 60, 61, 62, 124] rfl (j_cons c_1 (by decide) (j_cons c_4 (by decide) (j_cons c_7 (by decide) (j_cons c_8 (by decide) (j_cons c_9 (by decide) (j_cons c_10 (by decide) (j_cons c_13 (by decide) (j_cons c_15 (by decide) (j_cons c_17 (by decide) (j_cons c_19 (by decide) j_nil))))))))))) (by decide) ?_
                        refine lv_iconst (v := (0 : Int32)) hx hb dX4_joined_189 (by decide) ?_
                        exact hret 190 _ _ ls (0 : Int32) dX4_joined_190 ho hP hD hS
  refine main _ (fun pc H locs ls r hd he hP hD hS => ?_)
  obtain rfl := Option.some.inj he
  exact W.iret (v := r) hx hb hr (fun t ht hW => ⟨⟨r, (), rfl, rfl, by rw [ht]; exact hP, va_K.moved hW.alike hK, hD⟩, hS.F ht⟩) hS.2.2 hd

set_option maxHeartbeats 4000000 in
set_option maxRecDepth 100000 in
theorem c_Law_named (l : Launch) (G : va_G) (cI cB : ClassId) (sz : Nat) (p0 : Int32) (p1 : Int32) (p2 : Int32) (p3 : Int32) (ro : Int32) (ho : s_Law_named p0 p1 p2 p3 = some (ro)) : Met l yX4_named wsX4_named ({ frames := 0, cells := 0, slots := 0, locals := 0 } : Room) (va_Pc [.int p0, .int p1, .int p2, .int p3] (j_P G cI cB sz [])) (va_Qi (fun (r : Int32) (_ : Unit) => r = ro) (fun _ t => j_B G cI cB (va_A [] sz) [] t) (va_A [] sz)) 0 0 (va_A [] sz) := by
  refine Met.ofW (cc := cX4_named) (maxL := 4) (ret := (some .int)) (by decide) rfl ?_
  intro p e s m args below meth c s₁ B hml hv
  obtain ⟨rfl, hsz, hP, hK, hD0⟩ := hv
  have hx := B.exec
  have hb := B.bytes
  have hr := B.returns
  have hts := atoms_spec (ws := wsX4_named) B.pre
  have hown : s.vm.findClass RX4 = some m.cls := findClass_of_methodNamed B.named
  have hlocks := B.notSynchronized
  subst hsz
  have hD := hD0.self (sz := s.heap.size)
  generalize hAe : va_A [] s.heap.size = A at hD ⊢
  have hA : ∀ q : Nat, s.heap.size ≤ q → A q := fun q h => by rw [← hAe]; exact Or.inr h
  have hS : va_S A s.heap s.heap [] := va_S.rf
  have hl := lv_entry ([.int p0, .int p1, .int p2, .int p3]) (n := 4) (Nat.le_of_ble_eq_true rfl)
  rw [lg_entry_eq]
  generalize (lg_sl ([.int p0, .int p1, .int p2, .int p3]) ++ List.replicate (4 - (lg_sl ([.int p0, .int p1, .int p2, .int p3])).length) Slot.unset).toArray = ls at hl ⊢
  have hl : lv_has ls 4 [(0, .int p0), (1, .int p1), (2, .int p2), (3, .int p3)] := hl
  have main : ∀ Q : State → Prop, (∀ (pc : Nat) (H : Heap) (locs : List Loc) (ls : Array Slot) (r : Int32), decode cX4_named pc = .ok (.ireturn, 1) → some (r) = some (ro) → va_P G vwCl [] H → va_D A [] → va_S A s.heap H locs → W p l e ({ frames := 0, cells := 0, slots := 0, locals := 0 } : Room) s m ([.int p0, .int p1, .int p2, .int p3] : List Value).toArray below meth c H locs 0 0 Q (F0 m pc ls [.int r])) → W p l e ({ frames := 0, cells := 0, slots := 0, locals := 0 } : Room) s m ([.int p0, .int p1, .int p2, .int p3] : List Value).toArray below meth c s.heap [] 0 0 Q (F0 m 0 ls []) := by
    intro Q hret
    rw [s_Law_named] at ho
    refine lv_iload_n hx hb dX4_named_0 rfl (lv_at hl 0 rfl) ?_
    refine lv_if_ne (tgt := 6) hx hb dX4_named_1 (by decide) (fun c_1 => ?_) (fun c_1 => ?_)
    · replace ho := j_iff c_1 ho
      refine lv_iload_n hx hb dX4_named_6 rfl (lv_at hl 0 rfl) ?_
      refine lv_iconst (v := (1 : Int32)) hx hb dX4_named_7 (by decide) ?_
      refine lv_icmp_ne (tgt := 15) hx hb dX4_named_8 (by decide) (fun c_2 => ?_) (fun c_2 => ?_)
      · replace ho := j_iff c_2 ho
        refine lv_iload_n hx hb dX4_named_15 rfl (lv_at hl 3 rfl) ?_
        exact hret 16 _ _ ls p3 dX4_named_16 ho hP hD hS
      · replace ho := j_ift c_2 ho
        refine lv_iload_n hx hb dX4_named_11 rfl (lv_at hl 2 rfl) ?_
        refine lv_goto (tgt := 16) hx hb dX4_named_12 (by decide) ?_
        exact hret 16 _ _ ls p2 dX4_named_16 ho hP hD hS
    · replace ho := j_ift c_1 ho
      refine lv_iload_n hx hb dX4_named_4 rfl (lv_at hl 1 rfl) ?_
      exact hret 5 _ _ ls p1 dX4_named_5 ho hP hD hS
  refine main _ (fun pc H locs ls r hd he hP hD hS => ?_)
  obtain rfl := Option.some.inj he
  exact W.iret (v := r) hx hb hr (fun t ht hW => ⟨⟨r, (), rfl, rfl, by rw [ht]; exact hP, va_K.moved hW.alike hK, hD⟩, hS.F ht⟩) hS.2.2 hd

set_option maxHeartbeats 4000000 in
set_option maxRecDepth 100000 in
theorem c_Law_work (l : Launch) (G : va_G) (cI cB : ClassId) (h h_steps h_stack : Nat) (sz : Nat) (v_steps : Nat → Int32) (v_stack : Nat → Int32) (v_stepCount : Int32) (p1 : Int32) (p2 : Int32) (p3 : Int32) (ro : Int32) (o_v_stack : Nat → Int32) (ho : s_Law_work p1 p2 p3 v_steps v_stack v_stepCount = some (ro, o_v_stack)) : Met l yX4_work wsX4_work ({ frames := 1, cells := 0, slots := 0, locals := 23 } : Room) (va_Pc [.ref h, .int p1, .int p2, .int p3] (j_P G cI cB sz [(h, .inr (2, [.ref h_steps, .ref h_stack, .int v_stepCount])), (h_steps, .inl (cI, 60, .inl v_steps)), (h_stack, .inl (cI, 60, .inl v_stack))])) (va_Qi (fun (r : Int32) (_ : Unit) => r = ro) (fun _ t => j_B G cI cB (va_A [(h, .inr (2, [.ref h_steps, .ref h_stack, .int v_stepCount])), (h_steps, .inl (cI, 60, .inl v_steps)), (h_stack, .inl (cI, 60, .inl v_stack))] sz) [(h, .inr (2, [.ref h_steps, .ref h_stack, .int v_stepCount])), (h_steps, .inl (cI, 60, .inl v_steps)), (h_stack, .inl (cI, 60, .inl o_v_stack))] t) (va_A [(h, .inr (2, [.ref h_steps, .ref h_stack, .int v_stepCount])), (h_steps, .inl (cI, 60, .inl v_steps)), (h_stack, .inl (cI, 60, .inl v_stack))] sz)) 0 0 (va_A [(h, .inr (2, [.ref h_steps, .ref h_stack, .int v_stepCount])), (h_steps, .inl (cI, 60, .inl v_steps)), (h_stack, .inl (cI, 60, .inl v_stack))] sz) := by
  refine Met.ofW (cc := cX4_work) (maxL := 7) (ret := (some .int)) (by decide) rfl ?_
  intro p e s m args below meth c s₁ B hml hv
  obtain ⟨rfl, hsz, hP, hK, hD0⟩ := hv
  have hx := B.exec
  have hb := B.bytes
  have hr := B.returns
  have hts := atoms_spec (ws := wsX4_work) B.pre
  have hown : s.vm.findClass RX4 = some m.cls := findClass_of_methodNamed B.named
  have hlocks := B.notSynchronized
  subst hsz
  have hD := hD0.self (sz := s.heap.size)
  generalize hAe : va_A [(h, .inr (2, [.ref h_steps, .ref h_stack, .int v_stepCount])), (h_steps, .inl (cI, 60, .inl v_steps)), (h_stack, .inl (cI, 60, .inl v_stack))] s.heap.size = A at hD ⊢
  have hA : ∀ q : Nat, s.heap.size ≤ q → A q := fun q h => by rw [← hAe]; exact Or.inr h
  have hS : va_S A s.heap s.heap [] := va_S.rf
  have hl := lv_entry ([.ref h, .int p1, .int p2, .int p3]) (n := 7) (Nat.le_of_ble_eq_true rfl)
  rw [lg_entry_eq]
  generalize (lg_sl ([.ref h, .int p1, .int p2, .int p3]) ++ List.replicate (7 - (lg_sl ([.ref h, .int p1, .int p2, .int p3])).length) Slot.unset).toArray = ls at hl ⊢
  have hl : lv_has ls 7 [(0, .ref h), (1, .int p1), (2, .int p2), (3, .int p3)] := hl
  have main : ∀ Q : State → Prop, (∀ (pc : Nat) (H : Heap) (locs : List Loc) (ls : Array Slot) (r : Int32) (u_v_stack : Nat → Int32), decode cX4_work pc = .ok (.ireturn, 1) → some (r, u_v_stack) = some (ro, o_v_stack) → va_P G vwCl [(h, .inr (2, [.ref h_steps, .ref h_stack, .int v_stepCount])), (h_steps, .inl (cI, 60, .inl v_steps)), (h_stack, .inl (cI, 60, .inl u_v_stack))] H → va_D A [(h, .inr (2, [.ref h_steps, .ref h_stack, .int v_stepCount])), (h_steps, .inl (cI, 60, .inl v_steps)), (h_stack, .inl (cI, 60, .inl u_v_stack))] → va_S A s.heap H locs → W p l e ({ frames := 1, cells := 0, slots := 0, locals := 23 } : Room) s m ([.ref h, .int p1, .int p2, .int p3] : List Value).toArray below meth c H locs 0 0 Q (F0 m pc ls [.int r])) → W p l e ({ frames := 1, cells := 0, slots := 0, locals := 23 } : Room) s m ([.ref h, .int p1, .int p2, .int p3] : List Value).toArray below meth c s.heap [] 0 0 Q (F0 m 0 ls []) := by
    intro Q hret
    rw [s_Law_work] at ho
    refine lv_iconst (v := (0 : Int32)) hx hb dX4_work_0 (by decide) ?_
    refine lv_istore (lv' := [(4, .int (0 : Int32)), (0, .ref h), (1, .int p1), (2, .int p2), (3, .int p3)]) hx hb dX4_work_1 hl (by decide) rfl (fun ls hl => ?_)
    refine lv_iconst (v := (0 : Int32)) hx hb dX4_work_3 (by decide) ?_
    refine lv_istore (lv' := [(5, .int (0 : Int32)), (4, .int (0 : Int32)), (0, .ref h), (1, .int p1), (2, .int p2), (3, .int p3)]) hx hb dX4_work_4 hl (by decide) rfl (fun ls hl => ?_)
    have seg_6 : ∀ (n_6 : Nat) (x4_6 : Int32) (x5_6 : Int32) (v_stack_6 : Nat → Int32) (H : Heap) (locs : List Loc) (ls : Array Slot), s_Law_work_c6 p1 p2 p3 v_steps v_stepCount n_6 x4_6 x5_6 v_stack_6 = some (ro, o_v_stack) → va_P G vwCl [(h, .inr (2, [.ref h_steps, .ref h_stack, .int v_stepCount])), (h_steps, .inl (cI, 60, .inl v_steps)), (h_stack, .inl (cI, 60, .inl v_stack_6))] H → va_D A [(h, .inr (2, [.ref h_steps, .ref h_stack, .int v_stepCount])), (h_steps, .inl (cI, 60, .inl v_steps)), (h_stack, .inl (cI, 60, .inl v_stack_6))] → va_S A s.heap H locs → lv_has ls 7 [(0, .ref h), (1, .int p1), (2, .int p2), (3, .int p3), (4, .int x4_6), (5, .int x5_6)] → W p l e ({ frames := 1, cells := 0, slots := 0, locals := 23 } : Room) s m ([.ref h, .int p1, .int p2, .int p3] : List Value).toArray below meth c H locs 0 0 Q (F0 m 6 ls []) := by
      intro n_6
      induction n_6 with
      | zero =>
        intro x4_6 x5_6 v_stack_6 H locs ls ho hP hD hS hl
        rw [s_Law_work_c6] at ho
        cases ho
      | succ n_6 ih_6 =>
        intro x4_6 x5_6 v_stack_6 H locs ls ho hP hD hS hl
        rw [s_Law_work_c6] at ho
        refine lv_iload hx hb dX4_work_6 (lv_at hl 5 rfl) ?_
        refine lv_aload_n hx hb dX4_work_8 rfl (lv_at hl 0 rfl) ?_
        refine va_get (D := G) (ci := 2) (v := .int v_stepCount) (C := RX4) (T := TX4) (N := 3) hx hb hts innX4_work_X4 hown hK hP 0 rfl rfl 2 (by decide) (hts (.fieldLink RX4 16 "DownByTheHour$Law" "stepCount" "I") (by decide +kernel)) (fun _ h9 => h9) rfl dX4_work_9 ?_
        have seg_190 : ∀ (H : Heap) (locs : List Loc) (ls : Array Slot), s_Law_work_c190 v_stack_6 = some (ro, o_v_stack) → va_P G vwCl [(h, .inr (2, [.ref h_steps, .ref h_stack, .int v_stepCount])), (h_steps, .inl (cI, 60, .inl v_steps)), (h_stack, .inl (cI, 60, .inl v_stack_6))] H → va_D A [(h, .inr (2, [.ref h_steps, .ref h_stack, .int v_stepCount])), (h_steps, .inl (cI, 60, .inl v_steps)), (h_stack, .inl (cI, 60, .inl v_stack_6))] → va_S A s.heap H locs → lv_has ls 7 [(0, .ref h)] → W p l e ({ frames := 1, cells := 0, slots := 0, locals := 23 } : Room) s m ([.ref h, .int p1, .int p2, .int p3] : List Value).toArray below meth c H locs 0 0 Q (F0 m 190 ls []) := by
          intro H locs ls ho hP hD hS hl
          rw [s_Law_work_c190] at ho
          refine lv_aload_n hx hb dX4_work_190 rfl (lv_at hl 0 rfl) ?_
          refine va_get (D := G) (ci := 2) (v := .ref h_stack) (C := RX4) (T := TX4) (N := 3) hx hb hts innX4_work_X4 hown hK hP 0 rfl rfl 1 (by decide) (hts (.fieldLink RX4 13 "DownByTheHour$Law" "stack" "[I") (by decide +kernel)) (fun _ h9 => h9) rfl dX4_work_191 ?_
          refine lv_iconst (v := (0 : Int32)) hx hb dX4_work_194 (by decide) ?_
          refine va_iald (f := v_stack_6) hx hb hK hP 2 0 rfl rfl (show ¬ (_ ∨ _) by decide) dX4_work_195 ?_
          exact hret 196 _ _ ls ((v_stack_6 (0 : Int32).toNatClampNeg)) v_stack_6 dX4_work_196 ho hP hD hS
        refine lv_icmp_ge (tgt := 190) hx hb dX4_work_12 (by decide) (fun c_1 => ?_) (fun c_1 => ?_)
        · replace ho := j_ift c_1 ho
          exact seg_190 _ _ ls ho hP hD hS (lv_sub hl [0] rfl)
        · replace ho := j_iff c_1 ho
          refine lv_iload hx hb dX4_work_15 (lv_at hl 5 rfl) ?_
          refine lv_bipush (v := (60 : Int32)) hx hb dX4_work_17 (by decide) ?_
          refine lv_icmp_ge (tgt := 190) hx hb dX4_work_19 (by decide) (fun c_2 => ?_) (fun c_2 => ?_)
          · replace ho := j_ift c_2 ho
            exact seg_190 _ _ ls ho hP hD hS (lv_sub hl [0] rfl)
          · replace ho := j_iff c_2 ho
            refine lv_aload_n hx hb dX4_work_22 rfl (lv_at hl 0 rfl) ?_
            refine va_get (D := G) (ci := 2) (v := .ref h_steps) (C := RX4) (T := TX4) (N := 3) hx hb hts innX4_work_X4 hown hK hP 0 rfl rfl 0 (by decide) (hts (.fieldLink RX4 9 "DownByTheHour$Law" "steps" "[I") (by decide +kernel)) (fun _ h9 => h9) rfl dX4_work_23 ?_
            refine lv_iload hx hb dX4_work_26 (lv_at hl 5 rfl) ?_
            obtain ⟨hi_3, ho⟩ := j_chk_some ho
            refine va_iald (f := v_steps) hx hb hK hP 1 0 rfl rfl hi_3 dX4_work_28 ?_
            refine lv_istore (lv' := [(6, .int (v_steps x5_6.toNatClampNeg)), (0, .ref h), (1, .int p1), (2, .int p2), (3, .int p3), (4, .int x4_6), (5, .int x5_6)]) hx hb dX4_work_29 hl (by decide) rfl (fun ls hl => ?_)
            refine lv_iload hx hb dX4_work_31 (lv_at hl 0 rfl) ?_
            refine lv_sipush (v := (20000 : Int32)) hx hb dX4_work_33 (by decide) ?_
            have seg_184 : ∀ (x4_184 : Int32) (v_stack_184 : Nat → Int32) (H : Heap) (locs : List Loc) (ls : Array Slot), s_Law_work_c184 (s_Law_work_c6 p1 p2 p3 v_steps v_stepCount n_6) x5_6 x4_184 v_stack_184 = some (ro, o_v_stack) → va_P G vwCl [(h, .inr (2, [.ref h_steps, .ref h_stack, .int v_stepCount])), (h_steps, .inl (cI, 60, .inl v_steps)), (h_stack, .inl (cI, 60, .inl v_stack_184))] H → va_D A [(h, .inr (2, [.ref h_steps, .ref h_stack, .int v_stepCount])), (h_steps, .inl (cI, 60, .inl v_steps)), (h_stack, .inl (cI, 60, .inl v_stack_184))] → va_S A s.heap H locs → lv_has ls 7 [(0, .ref h), (1, .int p1), (2, .int p2), (3, .int p3), (4, .int x4_184), (5, .int x5_6)] → W p l e ({ frames := 1, cells := 0, slots := 0, locals := 23 } : Room) s m ([.ref h, .int p1, .int p2, .int p3] : List Value).toArray below meth c H locs 0 0 Q (F0 m 184 ls []) := by
              intro x4_184 v_stack_184 H locs ls ho hP hD hS hl
              rw [s_Law_work_c184] at ho
              refine lv_iinc (v := (x5_6 + (1 : Int32))) (lv' := [(5, .int ((x5_6 + (1 : Int32)))), (0, .ref h), (1, .int p1), (2, .int p2), (3, .int p3), (4, .int x4_184)]) hx hb dX4_work_184 hl (k := 5) rfl rfl (by decide) rfl (fun ls hl => ?_)
              refine lv_goto (tgt := 6) hx hb dX4_work_187 (by decide) ?_
              exact ih_6 x4_184 ((x5_6 + (1 : Int32))) v_stack_184 _ _ ls ho hP hD hS (lv_sub hl [1, 2, 3, 4, 5, 0] rfl)
            refine lv_icmp_ge (tgt := 84) hx hb dX4_work_36 (by decide) (fun c_4 => ?_) (fun c_4 => ?_)
            · replace ho := j_ift c_4 ho
              refine lv_iload hx hb dX4_work_84 (lv_at hl 0 rfl) ?_
              refine lv_sipush (v := (20033 : Int32)) hx hb dX4_work_86 (by decide) ?_
              refine lv_icmp_ne (tgt := 134) hx hb dX4_work_89 (by decide) (fun c_5 => ?_) (fun c_5 => ?_)
              · replace ho := j_iff c_5 ho
                refine lv_iload hx hb dX4_work_134 (lv_at hl 5 rfl) ?_
                refine lv_iconst (v := (2 : Int32)) hx hb dX4_work_136 (by decide) ?_
                refine lv_icmp_lt (tgt := 184) hx hb dX4_work_137 (by decide) (fun c_6 => ?_) (fun c_6 => ?_)
                · replace ho := j_ift c_6 ho
                  exact seg_184 x4_6 v_stack_6 _ _ ls ho hP hD hS (lv_sub hl [1, 2, 3, 4, 5, 6] rfl)
                · replace ho := j_iff c_6 ho
                  refine lv_iload hx hb dX4_work_140 (lv_at hl 5 rfl) ?_
                  refine lv_bipush (v := (60 : Int32)) hx hb dX4_work_142 (by decide) ?_
                  refine lv_icmp_gt (tgt := 184) hx hb dX4_work_144 (by decide) (fun c_7 => ?_) (fun c_7 => ?_)
                  · replace ho := j_ift c_7 ho
                    exact seg_184 x4_6 v_stack_6 _ _ ls ho hP hD hS (lv_sub hl [1, 2, 3, 4, 5, 6] rfl)
                  · replace ho := j_iff c_7 ho
                    refine lv_iinc (v := (x4_6 + (-1 : Int32))) (lv' := [(4, .int ((x4_6 + (-1 : Int32)))), (6, .int (v_steps x5_6.toNatClampNeg)), (0, .ref h), (1, .int p1), (2, .int p2), (3, .int p3), (5, .int x5_6)]) hx hb dX4_work_147 hl (k := 5) rfl rfl (by decide) rfl (fun ls hl => ?_)
                    refine lv_aload_n hx hb dX4_work_150 rfl (lv_at hl 2 rfl) ?_
                    refine va_get (D := G) (ci := 2) (v := .ref h_stack) (C := RX4) (T := TX4) (N := 3) hx hb hts innX4_work_X4 hown hK hP 0 rfl rfl 1 (by decide) (hts (.fieldLink RX4 13 "DownByTheHour$Law" "stack" "[I") (by decide +kernel)) (fun _ h9 => h9) rfl dX4_work_151 ?_
                    refine lv_iload hx hb dX4_work_154 (lv_at hl 0 rfl) ?_
                    refine lv_iconst (v := (1 : Int32)) hx hb dX4_work_156 (by decide) ?_
                    refine lv_isub hx hb dX4_work_157 ?_
                    refine lv_iload hx hb dX4_work_158 (lv_at hl 1 rfl) ?_
                    refine lv_sipush (v := (20000 : Int32)) hx hb dX4_work_160 (by decide) ?_
                    refine lv_isub hx hb dX4_work_163 ?_
                    refine lv_aload_n hx hb dX4_work_164 rfl (lv_at hl 2 rfl) ?_
                    refine va_get (D := G) (ci := 2) (v := .ref h_stack) (C := RX4) (T := TX4) (N := 3) hx hb hts innX4_work_X4 hown hK hP 0 rfl rfl 1 (by decide) (hts (.fieldLink RX4 13 "DownByTheHour$Law" "stack" "[I") (by decide +kernel)) (fun _ h9 => h9) rfl dX4_work_165 ?_
                    refine lv_iload hx hb dX4_work_168 (lv_at hl 0 rfl) ?_
                    refine lv_iconst (v := (1 : Int32)) hx hb dX4_work_170 (by decide) ?_
                    refine lv_isub hx hb dX4_work_171 ?_
                    obtain ⟨hi_8, ho⟩ := j_chk_some ho
                    refine va_iald (f := v_stack_6) hx hb hK hP 2 0 rfl rfl hi_8 dX4_work_172 ?_
                    refine lv_aload_n hx hb dX4_work_173 rfl (lv_at hl 2 rfl) ?_
                    refine va_get (D := G) (ci := 2) (v := .ref h_stack) (C := RX4) (T := TX4) (N := 3) hx hb hts innX4_work_X4 hown hK hP 0 rfl rfl 1 (by decide) (hts (.fieldLink RX4 13 "DownByTheHour$Law" "stack" "[I") (by decide +kernel)) (fun _ h9 => h9) rfl dX4_work_174 ?_
                    refine lv_iload hx hb dX4_work_177 (lv_at hl 0 rfl) ?_
                    obtain ⟨hi_9, ho⟩ := j_chk_some ho
                    refine va_iald (f := v_stack_6) hx hb hK hP 2 0 rfl rfl hi_9 dX4_work_179 ?_
                    obtain ⟨r_10, hg_11, ho⟩ := j_b1_some ho
                    refine j_ci (va_runS (As := [.int (((v_steps x5_6.toNatClampNeg) - (20000 : Int32))), .int ((v_stack_6 ((x4_6 + (-1 : Int32)) - (1 : Int32)).toNatClampNeg)), .int ((v_stack_6 (x4_6 + (-1 : Int32)).toNatClampNeg))]) (rest := [.int (((x4_6 + (-1 : Int32)) - (1 : Int32))), .ref h_stack]) ⟨hx, hb, hml, hown, hts⟩ (c_Law_joined l G cI cB H.size (((v_steps x5_6.toNatClampNeg) - (20000 : Int32))) ((v_stack_6 ((x4_6 + (-1 : Int32)) - (1 : Int32)).toNatClampNeg)) ((v_stack_6 (x4_6 + (-1 : Int32)).toNatClampNeg)) r_10 hg_11) (va_cwS 3 hts gX4_work_X4_joined rfl rfl rfl (by decide +kernel) ⟨Nat.le_of_ble_eq_true rfl, Nat.le_of_ble_eq_true rfl⟩) (j_preS hK hP hD [] (by decide) rfl) rfl rfl hl.1 rfl (lv_room (Nat.le_of_ble_eq_true rfl)) dX4_work_180 ⟨Nat.le_refl _, Nat.le_refl _⟩) hP hD hS hA [] [0, 1, 2] (wr := [(h, .inr (2, [.ref h_steps, .ref h_stack, .int v_stepCount])), (h_steps, .inl (cI, 60, .inl v_steps)), (h_stack, .inl (cI, 60, .inl v_stack_6))]) rfl rfl (by decide) (by decide) (fun H locs hP hD hS => ?_)
                    have hP : va_P G vwCl [(h, .inr (2, [.ref h_steps, .ref h_stack, .int v_stepCount])), (h_steps, .inl (cI, 60, .inl v_steps)), (h_stack, .inl (cI, 60, .inl v_stack_6))] H := hP
                    have hD : va_D A [(h, .inr (2, [.ref h_steps, .ref h_stack, .int v_stepCount])), (h_steps, .inl (cI, 60, .inl v_steps)), (h_stack, .inl (cI, 60, .inl v_stack_6))] := hD
                    obtain ⟨hi_12, ho⟩ := j_chk_some ho
                    refine va_iast hx hb hK hP hD hS 2 0 rfl rfl hi_12 dX4_work_183 (fun H locs hP hD hS => ?_)
                    have hP : va_P G vwCl [(h, .inr (2, [.ref h_steps, .ref h_stack, .int v_stepCount])), (h_steps, .inl (cI, 60, .inl v_steps)), (h_stack, .inl (cI, 60, .inl (upd v_stack_6 ((x4_6 + (-1 : Int32)) - (1 : Int32)).toNatClampNeg r_10)))] H := hP
                    have hD : va_D A [(h, .inr (2, [.ref h_steps, .ref h_stack, .int v_stepCount])), (h_steps, .inl (cI, 60, .inl v_steps)), (h_stack, .inl (cI, 60, .inl (upd v_stack_6 ((x4_6 + (-1 : Int32)) - (1 : Int32)).toNatClampNeg r_10)))] := hD
                    exact seg_184 ((x4_6 + (-1 : Int32))) ((upd v_stack_6 ((x4_6 + (-1 : Int32)) - (1 : Int32)).toNatClampNeg r_10)) _ _ ls ho hP hD hS (lv_sub hl [2, 3, 4, 5, 0, 6] rfl)
              · replace ho := j_ift c_5 ho
                refine lv_iload hx hb dX4_work_92 (lv_at hl 5 rfl) ?_
                refine lv_iconst (v := (1 : Int32)) hx hb dX4_work_94 (by decide) ?_
                refine lv_icmp_lt (tgt := 184) hx hb dX4_work_95 (by decide) (fun c_13 => ?_) (fun c_13 => ?_)
                · replace ho := j_ift c_13 ho
                  exact seg_184 x4_6 v_stack_6 _ _ ls ho hP hD hS (lv_sub hl [1, 2, 3, 4, 5, 6] rfl)
                · replace ho := j_iff c_13 ho
                  refine lv_iload hx hb dX4_work_98 (lv_at hl 5 rfl) ?_
                  refine lv_bipush (v := (60 : Int32)) hx hb dX4_work_100 (by decide) ?_
                  refine lv_icmp_gt (tgt := 184) hx hb dX4_work_102 (by decide) (fun c_14 => ?_) (fun c_14 => ?_)
                  · replace ho := j_ift c_14 ho
                    exact seg_184 x4_6 v_stack_6 _ _ ls ho hP hD hS (lv_sub hl [1, 2, 3, 4, 5, 6] rfl)
                  · replace ho := j_iff c_14 ho
                    refine lv_aload_n hx hb dX4_work_105 rfl (lv_at hl 1 rfl) ?_
                    refine va_get (D := G) (ci := 2) (v := .ref h_stack) (C := RX4) (T := TX4) (N := 3) hx hb hts innX4_work_X4 hown hK hP 0 rfl rfl 1 (by decide) (hts (.fieldLink RX4 13 "DownByTheHour$Law" "stack" "[I") (by decide +kernel)) (fun _ h9 => h9) rfl dX4_work_106 ?_
                    refine lv_iload hx hb dX4_work_109 (lv_at hl 5 rfl) ?_
                    refine lv_iconst (v := (1 : Int32)) hx hb dX4_work_111 (by decide) ?_
                    refine lv_isub hx hb dX4_work_112 ?_
                    refine lv_aload_n hx hb dX4_work_113 rfl (lv_at hl 1 rfl) ?_
                    refine va_get (D := G) (ci := 2) (v := .ref h_stack) (C := RX4) (T := TX4) (N := 3) hx hb hts innX4_work_X4 hown hK hP 0 rfl rfl 1 (by decide) (hts (.fieldLink RX4 13 "DownByTheHour$Law" "stack" "[I") (by decide +kernel)) (fun _ h9 => h9) rfl dX4_work_114 ?_
                    refine lv_iload hx hb dX4_work_117 (lv_at hl 5 rfl) ?_
                    refine lv_iconst (v := (1 : Int32)) hx hb dX4_work_119 (by decide) ?_
                    refine lv_isub hx hb dX4_work_120 ?_
                    obtain ⟨hi_15, ho⟩ := j_chk_some ho
                    refine va_iald (f := v_stack_6) hx hb hK hP 2 0 rfl rfl hi_15 dX4_work_121 ?_
                    have seg_130 : ∀ (k1_130 : Int32) (k2_130 : Int32) (H : Heap) (locs : List Loc) (ls : Array Slot), s_Law_work_c130 (s_Law_work_c6 p1 p2 p3 v_steps v_stepCount n_6) x4_6 x5_6 v_stack_6 k1_130 k2_130 = some (ro, o_v_stack) → va_P G vwCl [(h, .inr (2, [.ref h_steps, .ref h_stack, .int v_stepCount])), (h_steps, .inl (cI, 60, .inl v_steps)), (h_stack, .inl (cI, 60, .inl v_stack_6))] H → va_D A [(h, .inr (2, [.ref h_steps, .ref h_stack, .int v_stepCount])), (h_steps, .inl (cI, 60, .inl v_steps)), (h_stack, .inl (cI, 60, .inl v_stack_6))] → va_S A s.heap H locs → lv_has ls 7 [(0, .ref h), (1, .int p1), (2, .int p2), (3, .int p3), (4, .int x4_6), (5, .int x5_6)] → W p l e ({ frames := 1, cells := 0, slots := 0, locals := 23 } : Room) s m ([.ref h, .int p1, .int p2, .int p3] : List Value).toArray below meth c H locs 0 0 Q (F0 m 130 ls [.int k2_130, .int k1_130, .ref h_stack]) := by
                      intro k1_130 k2_130 H locs ls ho hP hD hS hl
                      rw [s_Law_work_c130] at ho
                      obtain ⟨hi_17, ho⟩ := j_chk_some ho
                      refine va_iast hx hb hK hP hD hS 2 0 rfl rfl hi_17 dX4_work_130 (fun H locs hP hD hS => ?_)
                      have hP : va_P G vwCl [(h, .inr (2, [.ref h_steps, .ref h_stack, .int v_stepCount])), (h_steps, .inl (cI, 60, .inl v_steps)), (h_stack, .inl (cI, 60, .inl (upd v_stack_6 k1_130.toNatClampNeg k2_130)))] H := hP
                      have hD : va_D A [(h, .inr (2, [.ref h_steps, .ref h_stack, .int v_stepCount])), (h_steps, .inl (cI, 60, .inl v_steps)), (h_stack, .inl (cI, 60, .inl (upd v_stack_6 k1_130.toNatClampNeg k2_130)))] := hD
                      refine lv_goto (tgt := 184) hx hb dX4_work_131 (by decide) ?_
                      exact seg_184 x4_6 (upd v_stack_6 k1_130.toNatClampNeg k2_130) _ _ ls ho hP hD hS (lv_sub hl [0, 1, 2, 3, 4, 5] rfl)
                    refine lv_if_ne (tgt := 129) hx hb dX4_work_122 (by decide) (fun c_16 => ?_) (fun c_16 => ?_)
                    · replace ho := j_iff c_16 ho
                      refine lv_iconst (v := (0 : Int32)) hx hb dX4_work_129 (by decide) ?_
                      exact seg_130 ((x4_6 - (1 : Int32))) (0 : Int32) _ _ ls ho hP hD hS (lv_sub hl [1, 2, 3, 4, 5, 6] rfl)
                    · replace ho := j_ift c_16 ho
                      refine lv_iconst (v := (1 : Int32)) hx hb dX4_work_125 (by decide) ?_
                      refine lv_goto (tgt := 130) hx hb dX4_work_126 (by decide) ?_
                      exact seg_130 ((x4_6 - (1 : Int32))) (1 : Int32) _ _ ls ho hP hD hS (lv_sub hl [1, 2, 3, 4, 5, 6] rfl)
            · replace ho := j_iff c_4 ho
              refine lv_iload hx hb dX4_work_39 (lv_at hl 5 rfl) ?_
              refine lv_bipush (v := (60 : Int32)) hx hb dX4_work_41 (by decide) ?_
              refine lv_icmp_ge (tgt := 184) hx hb dX4_work_43 (by decide) (fun c_18 => ?_) (fun c_18 => ?_)
              · replace ho := j_ift c_18 ho
                exact seg_184 x4_6 v_stack_6 _ _ ls ho hP hD hS (lv_sub hl [1, 2, 3, 4, 5, 6] rfl)
              · replace ho := j_iff c_18 ho
                refine lv_aload_n hx hb dX4_work_46 rfl (lv_at hl 1 rfl) ?_
                refine va_get (D := G) (ci := 2) (v := .ref h_stack) (C := RX4) (T := TX4) (N := 3) hx hb hts innX4_work_X4 hown hK hP 0 rfl rfl 1 (by decide) (hts (.fieldLink RX4 13 "DownByTheHour$Law" "stack" "[I") (by decide +kernel)) (fun _ h9 => h9) rfl dX4_work_47 ?_
                refine lv_iload hx hb dX4_work_50 (lv_at hl 5 rfl) ?_
                refine lv_iload hx hb dX4_work_52 (lv_at hl 0 rfl) ?_
                refine lv_sipush (v := (10000 : Int32)) hx hb dX4_work_54 (by decide) ?_
                have seg_77 : ∀ (k1_77 : Int32) (k2_77 : Int32) (H : Heap) (locs : List Loc) (ls : Array Slot), s_Law_work_c77 (s_Law_work_c6 p1 p2 p3 v_steps v_stepCount n_6) x4_6 x5_6 v_stack_6 k1_77 k2_77 = some (ro, o_v_stack) → va_P G vwCl [(h, .inr (2, [.ref h_steps, .ref h_stack, .int v_stepCount])), (h_steps, .inl (cI, 60, .inl v_steps)), (h_stack, .inl (cI, 60, .inl v_stack_6))] H → va_D A [(h, .inr (2, [.ref h_steps, .ref h_stack, .int v_stepCount])), (h_steps, .inl (cI, 60, .inl v_steps)), (h_stack, .inl (cI, 60, .inl v_stack_6))] → va_S A s.heap H locs → lv_has ls 7 [(0, .ref h), (1, .int p1), (2, .int p2), (3, .int p3), (4, .int x4_6), (5, .int x5_6)] → W p l e ({ frames := 1, cells := 0, slots := 0, locals := 23 } : Room) s m ([.ref h, .int p1, .int p2, .int p3] : List Value).toArray below meth c H locs 0 0 Q (F0 m 77 ls [.int k2_77, .int k1_77, .ref h_stack]) := by
                  intro k1_77 k2_77 H locs ls ho hP hD hS hl
                  rw [s_Law_work_c77] at ho
                  obtain ⟨hi_20, ho⟩ := j_chk_some ho
                  refine va_iast hx hb hK hP hD hS 2 0 rfl rfl hi_20 dX4_work_77 (fun H locs hP hD hS => ?_)
                  have hP : va_P G vwCl [(h, .inr (2, [.ref h_steps, .ref h_stack, .int v_stepCount])), (h_steps, .inl (cI, 60, .inl v_steps)), (h_stack, .inl (cI, 60, .inl (upd v_stack_6 k1_77.toNatClampNeg k2_77)))] H := hP
                  have hD : va_D A [(h, .inr (2, [.ref h_steps, .ref h_stack, .int v_stepCount])), (h_steps, .inl (cI, 60, .inl v_steps)), (h_stack, .inl (cI, 60, .inl (upd v_stack_6 k1_77.toNatClampNeg k2_77)))] := hD
                  refine lv_iinc (v := (x4_6 + (1 : Int32))) (lv' := [(4, .int ((x4_6 + (1 : Int32)))), (0, .ref h), (1, .int p1), (2, .int p2), (3, .int p3), (5, .int x5_6)]) hx hb dX4_work_78 hl (k := 4) rfl rfl (by decide) rfl (fun ls hl => ?_)
                  refine lv_goto (tgt := 184) hx hb dX4_work_81 (by decide) ?_
                  exact seg_184 ((x4_6 + (1 : Int32))) (upd v_stack_6 k1_77.toNatClampNeg k2_77) _ _ ls ho hP hD hS (lv_sub hl [1, 2, 3, 4, 0, 5] rfl)
                refine lv_icmp_ge (tgt := 65) hx hb dX4_work_57 (by decide) (fun c_19 => ?_) (fun c_19 => ?_)
                · replace ho := j_ift c_19 ho
                  refine lv_iload hx hb dX4_work_65 (lv_at hl 0 rfl) ?_
                  refine lv_sipush (v := (10000 : Int32)) hx hb dX4_work_67 (by decide) ?_
                  refine lv_isub hx hb dX4_work_70 ?_
                  refine lv_iload_n hx hb dX4_work_71 rfl (lv_at hl 2 rfl) ?_
                  refine lv_iload_n hx hb dX4_work_72 rfl (lv_at hl 3 rfl) ?_
                  refine lv_iload_n hx hb dX4_work_73 rfl (lv_at hl 4 rfl) ?_
                  obtain ⟨r_21, hg_22, ho⟩ := j_b1_some ho
                  refine j_ci (va_runS (As := [.int (((v_steps x5_6.toNatClampNeg) - (10000 : Int32))), .int p1, .int p2, .int p3]) (rest := [.int x4_6, .ref h_stack]) ⟨hx, hb, hml, hown, hts⟩ (c_Law_named l G cI cB H.size (((v_steps x5_6.toNatClampNeg) - (10000 : Int32))) p1 p2 p3 r_21 hg_22) (va_cwS 4 hts gX4_work_X4_named rfl rfl rfl (by decide +kernel) ⟨Nat.le_of_ble_eq_true rfl, Nat.le_of_ble_eq_true rfl⟩) (j_preS hK hP hD [] (by decide) rfl) rfl rfl hl.1 rfl (lv_room (Nat.le_of_ble_eq_true rfl)) dX4_work_74 ⟨Nat.le_refl _, Nat.le_refl _⟩) hP hD hS hA [] [0, 1, 2] (wr := [(h, .inr (2, [.ref h_steps, .ref h_stack, .int v_stepCount])), (h_steps, .inl (cI, 60, .inl v_steps)), (h_stack, .inl (cI, 60, .inl v_stack_6))]) rfl rfl (by decide) (by decide) (fun H locs hP hD hS => ?_)
                  have hP : va_P G vwCl [(h, .inr (2, [.ref h_steps, .ref h_stack, .int v_stepCount])), (h_steps, .inl (cI, 60, .inl v_steps)), (h_stack, .inl (cI, 60, .inl v_stack_6))] H := hP
                  have hD : va_D A [(h, .inr (2, [.ref h_steps, .ref h_stack, .int v_stepCount])), (h_steps, .inl (cI, 60, .inl v_steps)), (h_stack, .inl (cI, 60, .inl v_stack_6))] := hD
                  exact seg_77 x4_6 r_21 _ _ ls ho hP hD hS (lv_sub hl [1, 2, 3, 4, 5, 6] rfl)
                · replace ho := j_iff c_19 ho
                  refine lv_iload hx hb dX4_work_60 (lv_at hl 0 rfl) ?_
                  refine lv_goto (tgt := 77) hx hb dX4_work_62 (by decide) ?_
                  exact seg_77 x4_6 (v_steps x5_6.toNatClampNeg) _ _ ls ho hP hD hS (lv_sub hl [1, 2, 3, 4, 5, 6] rfl)
    exact seg_6 400 (0 : Int32) (0 : Int32) v_stack _ _ ls ho hP hD hS (lv_sub hl [2, 3, 4, 5, 1, 0] rfl)
  refine main _ (fun pc H locs ls r u_v_stack hd he hP hD hS => ?_)
  obtain ⟨rfl, rfl⟩ := j_tup2 he
  exact W.iret (v := r) hx hb hr (fun t ht hW => ⟨⟨r, (), rfl, rfl, by rw [ht]; exact hP, va_K.moved hW.alike hK, hD⟩, hS.F ht⟩) hS.2.2 hd

set_option maxHeartbeats 4000000 in
set_option maxRecDepth 100000 in
theorem c_Kinds_isKind (l : Launch) (G : va_G) (cI cB : ClassId) (sz : Nat) (p0 : Int32) (ro : Int32) (ho : s_Kinds_isKind p0 = some (ro)) : Met l yX2_isKind wsX2_isKind ({ frames := 0, cells := 0, slots := 0, locals := 0 } : Room) (va_Pc [.int p0] (j_P G cI cB sz [])) (va_Qi (fun (r : Int32) (_ : Unit) => r = ro) (fun _ t => j_B G cI cB (va_A [] sz) [] t) (va_A [] sz)) 0 0 (va_A [] sz) := by
  refine Met.ofW (cc := cX2_isKind) (maxL := 1) (ret := (some .boolean)) (by decide) rfl ?_
  intro p e s m args below meth c s₁ B hml hv
  obtain ⟨rfl, hsz, hP, hK, hD0⟩ := hv
  have hx := B.exec
  have hb := B.bytes
  have hr := B.returns
  have hts := atoms_spec (ws := wsX2_isKind) B.pre
  have hown : s.vm.findClass RX2 = some m.cls := findClass_of_methodNamed B.named
  have hlocks := B.notSynchronized
  subst hsz
  have hD := hD0.self (sz := s.heap.size)
  generalize hAe : va_A [] s.heap.size = A at hD ⊢
  have hA : ∀ q : Nat, s.heap.size ≤ q → A q := fun q h => by rw [← hAe]; exact Or.inr h
  have hS : va_S A s.heap s.heap [] := va_S.rf
  have hl := lv_entry ([.int p0]) (n := 1) (Nat.le_of_ble_eq_true rfl)
  rw [lg_entry_eq]
  generalize (lg_sl ([.int p0]) ++ List.replicate (1 - (lg_sl ([.int p0])).length) Slot.unset).toArray = ls at hl ⊢
  have hl : lv_has ls 1 [(0, .int p0)] := hl
  have main : ∀ Q : State → Prop, (∀ (pc : Nat) (H : Heap) (locs : List Loc) (ls : Array Slot) (r : Int32), decode cX2_isKind pc = .ok (.ireturn, 1) → (r = 0 ∨ r = 1) → some (r) = some (ro) → va_P G vwCl [] H → va_D A [] → va_S A s.heap H locs → W p l e ({ frames := 0, cells := 0, slots := 0, locals := 0 } : Room) s m ([.int p0] : List Value).toArray below meth c H locs 0 0 Q (F0 m pc ls [.int r])) → W p l e ({ frames := 0, cells := 0, slots := 0, locals := 0 } : Room) s m ([.int p0] : List Value).toArray below meth c s.heap [] 0 0 Q (F0 m 0 ls []) := by
    intro Q hret
    rw [s_Kinds_isKind] at ho
    refine lv_iload_n hx hb dX2_isKind_0 rfl (lv_at hl 0 rfl) ?_
    refine lv_if_lt (tgt := 14) hx hb dX2_isKind_1 (by decide) (fun c_1 => ?_) (fun c_1 => ?_)
    · replace ho := j_ift c_1 ho
      refine lv_iconst (v := (0 : Int32)) hx hb dX2_isKind_14 (by decide) ?_
      exact hret 15 _ _ ls (0 : Int32) dX2_isKind_15 (Or.inl rfl) ho hP hD hS
    · replace ho := j_iff c_1 ho
      refine lv_iload_n hx hb dX2_isKind_4 rfl (lv_at hl 0 rfl) ?_
      refine lv_bipush (v := (7 : Int32)) hx hb dX2_isKind_5 (by decide) ?_
      refine lv_icmp_ge (tgt := 14) hx hb dX2_isKind_7 (by decide) (fun c_2 => ?_) (fun c_2 => ?_)
      · replace ho := j_ift c_2 ho
        refine lv_iconst (v := (0 : Int32)) hx hb dX2_isKind_14 (by decide) ?_
        exact hret 15 _ _ ls (0 : Int32) dX2_isKind_15 (Or.inl rfl) ho hP hD hS
      · replace ho := j_iff c_2 ho
        refine lv_iconst (v := (1 : Int32)) hx hb dX2_isKind_10 (by decide) ?_
        refine lv_goto (tgt := 15) hx hb dX2_isKind_11 (by decide) ?_
        exact hret 15 _ _ ls (1 : Int32) dX2_isKind_15 (Or.inr rfl) ho hP hD hS
  refine main _ (fun pc H locs ls r hd hz he hP hD hS => ?_)
  obtain rfl := Option.some.inj he
  exact W.zret (v := r) (ty := .boolean) hx hb hr (j_nz hz) (fun t ht hW => ⟨⟨r, (), rfl, rfl, by rw [ht]; exact hP, va_K.moved hW.alike hK, hD⟩, hS.F ht⟩) hS.2.2 hd

set_option maxHeartbeats 4000000 in
set_option maxRecDepth 100000 in
theorem c_Kinds_above (l : Launch) (G : va_G) (cI cB : ClassId) (sz : Nat) (p0 : Int32) (ro : Int32) (ho : s_Kinds_above p0 = some (ro)) : Met l yX2_above wsX2_above ({ frames := 1, cells := 0, slots := 0, locals := 20 } : Room) (va_Pc [.int p0] (j_PS G cI cB sz [])) (va_Qi (fun (r : Int32) (_ : Unit) => r = ro) (fun _ t => j_B G cI cB (va_A [] sz) [] t) (va_A [] sz)) 0 0 (va_A [] sz) := by
  refine Met.ofW (cc := cX2_above) (maxL := 1) (ret := (some .int)) (by decide) rfl ?_
  intro p e s m args below meth c s₁ B hml hv
  obtain ⟨rfl, ⟨hsz, hP, hK, hD0⟩, hZ⟩ := hv
  have hx := B.exec
  have hb := B.bytes
  have hr := B.returns
  have hts := atoms_spec (ws := wsX2_above) B.pre
  have hown : s.vm.findClass RX2 = some m.cls := findClass_of_methodNamed B.named
  have hlocks := B.notSynchronized
  subst hsz
  have hD := hD0.self (sz := s.heap.size)
  generalize hAe : va_A [] s.heap.size = A at hD hZ ⊢
  have hA : ∀ q : Nat, s.heap.size ≤ q → A q := fun q h => by rw [← hAe]; exact Or.inr h
  have hS : va_S A s.heap s.heap [] := va_S.rf
  obtain ⟨a_ABOVE, a_BODIES, hZA, hTA, hZB, hTB⟩ := id hZ
  have hl := lv_entry ([.int p0]) (n := 1) (Nat.le_of_ble_eq_true rfl)
  rw [lg_entry_eq]
  generalize (lg_sl ([.int p0]) ++ List.replicate (1 - (lg_sl ([.int p0])).length) Slot.unset).toArray = ls at hl ⊢
  have hl : lv_has ls 1 [(0, .int p0)] := hl
  have main : ∀ Q : State → Prop, (∀ (pc : Nat) (H : Heap) (locs : List Loc) (ls : Array Slot) (r : Int32), decode cX2_above pc = .ok (.ireturn, 1) → some (r) = some (ro) → va_P G vwCl [] H → va_D A [] → va_S A s.heap H locs → W p l e ({ frames := 1, cells := 0, slots := 0, locals := 20 } : Room) s m ([.int p0] : List Value).toArray below meth c H locs 0 0 Q (F0 m pc ls [.int r])) → W p l e ({ frames := 1, cells := 0, slots := 0, locals := 20 } : Room) s m ([.int p0] : List Value).toArray below meth c s.heap [] 0 0 Q (F0 m 0 ls []) := by
    intro Q hret
    rw [s_Kinds_above] at ho
    refine lv_iload_n hx hb dX2_above_0 rfl (lv_at hl 0 rfl) ?_
    obtain ⟨r_1, hg_2, ho⟩ := j_b1_some ho
    refine j_ci (va_runS (As := [.int p0]) (rest := []) ⟨hx, hb, hml, hown, hts⟩ (c_Kinds_isKind l G cI cB s.heap.size p0 r_1 hg_2) (va_cwS 1 hts gX2_above_X2_isKind rfl rfl rfl (by decide +kernel) ⟨Nat.le_of_ble_eq_true rfl, Nat.le_of_ble_eq_true rfl⟩) (j_preS hK hP hD [] (by decide) rfl) rfl rfl hl.1 rfl (lv_room (Nat.le_of_ble_eq_true rfl)) dX2_above_1 ⟨Nat.le_refl _, Nat.le_refl _⟩) hP hD hS hA [] [] (wr := []) rfl rfl (by decide) (by decide) (fun H locs hP hD hS => ?_)
    have hP : va_P G vwCl [] H := hP
    have hD : va_D A [] := hD
    refine lv_if_eq (tgt := 15) hx hb dX2_above_4 (by decide) (fun c_3 => ?_) (fun c_3 => ?_)
    · replace ho := j_ift c_3 ho
      refine lv_iconst (v := (-1 : Int32)) hx hb dX2_above_15 (by decide) ?_
      exact hret 16 _ _ ls (-1 : Int32) dX2_above_16 ho hP hD hS
    · replace ho := j_iff c_3 ho
      refine va_gets hx hb hZA hS hown (hts (.fieldLink RX2 13 "DownByTheHour$Kinds" "ABOVE" "[I") (by decide +kernel)) (fun _ h9 => h9) dX2_above_7 ?_
      refine lv_iload_n hx hb dX2_above_10 rfl (lv_at hl 0 rfl) ?_
      obtain ⟨hi_4, ho⟩ := j_chk_some ho
      refine va_ti (v := .int (st_Kinds_ABOVE p0.toNatClampNeg)) hx hb hTA hS hi_4 rfl dX2_above_11 ?_
      refine lv_goto (tgt := 16) hx hb dX2_above_12 (by decide) ?_
      exact hret 16 _ _ ls (st_Kinds_ABOVE p0.toNatClampNeg) dX2_above_16 ho hP hD hS
  refine main _ (fun pc H locs ls r hd he hP hD hS => ?_)
  obtain rfl := Option.some.inj he
  exact W.iret (v := r) hx hb hr (fun t ht hW => ⟨⟨r, (), rfl, rfl, by rw [ht]; exact hP, va_K.moved hW.alike hK, hD⟩, hS.F ht⟩) hS.2.2 hd

set_option maxHeartbeats 4000000 in
set_option maxRecDepth 100000 in
theorem c_Landings_learn (l : Launch) (G : va_G) (cI cB : ClassId) (h h_rests : Nat) (sz : Nat) (v_rests : Nat → Int32) (v_walls : Int64) (p1 : Int64) (o_v_rests : Nat → Int32) (o_v_walls : Int64) (ho : s_Landings_learn p1 v_rests v_walls = some (o_v_rests, o_v_walls)) : Met l yX3_learn wsX3_learn ({ frames := 2, cells := 0, slots := 0, locals := 48 } : Room) (va_Pc [.ref h, .long p1] (j_P G cI cB sz [(h, .inr (1, [.ref h_rests, .long v_walls])), (h_rests, .inl (cI, 144, .inl v_rests))])) (va_Qv (fun (_ : Unit) => True) (fun _ t => j_B G cI cB (va_A [(h, .inr (1, [.ref h_rests, .long v_walls])), (h_rests, .inl (cI, 144, .inl v_rests))] sz) [(h, .inr (1, [.ref h_rests, .long o_v_walls])), (h_rests, .inl (cI, 144, .inl o_v_rests))] t) (va_A [(h, .inr (1, [.ref h_rests, .long v_walls])), (h_rests, .inl (cI, 144, .inl v_rests))] sz)) 0 0 (va_A [(h, .inr (1, [.ref h_rests, .long v_walls])), (h_rests, .inl (cI, 144, .inl v_rests))] sz) := by
  refine Met.ofW (cc := cX3_learn) (maxL := 4) (ret := none) (by decide) rfl ?_
  intro p e s m args below meth c s₁ B hml hv
  obtain ⟨rfl, hsz, hP, hK, hD0⟩ := hv
  have hx := B.exec
  have hb := B.bytes
  have hr := B.returns
  have hts := atoms_spec (ws := wsX3_learn) B.pre
  have hown : s.vm.findClass RX3 = some m.cls := findClass_of_methodNamed B.named
  have hlocks := B.notSynchronized
  subst hsz
  have hD := hD0.self (sz := s.heap.size)
  generalize hAe : va_A [(h, .inr (1, [.ref h_rests, .long v_walls])), (h_rests, .inl (cI, 144, .inl v_rests))] s.heap.size = A at hD ⊢
  have hA : ∀ q : Nat, s.heap.size ≤ q → A q := fun q h => by rw [← hAe]; exact Or.inr h
  have hS : va_S A s.heap s.heap [] := va_S.rf
  have hl := lv_entry ([.ref h, .long p1]) (n := 4) (Nat.le_of_ble_eq_true rfl)
  rw [lg_entry_eq]
  generalize (lg_sl ([.ref h, .long p1]) ++ List.replicate (4 - (lg_sl ([.ref h, .long p1])).length) Slot.unset).toArray = ls at hl ⊢
  have hl : lv_has ls 4 [(0, .ref h), (1, .long p1)] := hl
  have main : ∀ Q : State → Prop, (∀ (pc : Nat) (H : Heap) (locs : List Loc) (ls : Array Slot) (u_v_rests : Nat → Int32) (u_v_walls : Int64), decode cX3_learn pc = .ok (.return_, 1) → some (u_v_rests, u_v_walls) = some (o_v_rests, o_v_walls) → va_P G vwCl [(h, .inr (1, [.ref h_rests, .long u_v_walls])), (h_rests, .inl (cI, 144, .inl u_v_rests))] H → va_D A [(h, .inr (1, [.ref h_rests, .long u_v_walls])), (h_rests, .inl (cI, 144, .inl u_v_rests))] → va_S A s.heap H locs → W p l e ({ frames := 2, cells := 0, slots := 0, locals := 48 } : Room) s m ([.ref h, .long p1] : List Value).toArray below meth c H locs 0 0 Q (F0 m pc ls [])) → W p l e ({ frames := 2, cells := 0, slots := 0, locals := 48 } : Room) s m ([.ref h, .long p1] : List Value).toArray below meth c s.heap [] 0 0 Q (F0 m 0 ls []) := by
    intro Q hret
    rw [s_Landings_learn] at ho
    refine lv_aload_n hx hb dX3_learn_0 rfl (lv_at hl 0 rfl) ?_
    refine lv_lload_n hx hb dX3_learn_1 rfl (lv_at hl 1 rfl) ?_
    refine va_put (D := G) (ci := 1) (v := .long p1) (ty := .long) (C := RX3) (T := TX3) (N := 2) hx hb hts innX3_learn_X3 tyX3 tyX3_ok nmX3 hown hK hP hD hS 0 rfl rfl 1 (by decide) (hts (.fieldLink RX3 15 "DownByTheHour$Landings" "walls" "J") (by decide +kernel)) (fun _ h9 => h9) rfl (by decide +kernel) rfl rfl (Nat.le_of_ble_eq_true rfl) dX3_learn_2 (fun H locs hP hD hS => ?_)
    have hP : va_P G vwCl [(h, .inr (1, [.ref h_rests, .long p1])), (h_rests, .inl (cI, 144, .inl v_rests))] H := hP
    have hD : va_D A [(h, .inr (1, [.ref h_rests, .long p1])), (h_rests, .inl (cI, 144, .inl v_rests))] := hD
    refine lv_iconst (v := (0 : Int32)) hx hb dX3_learn_5 (by decide) ?_
    refine lv_istore_n (lv' := [(3, .int (0 : Int32)), (0, .ref h), (1, .long p1)]) hx hb dX3_learn_6 rfl hl (by decide) rfl (fun ls hl => ?_)
    have seg_7 : ∀ (n_7 : Nat) (x3_7 : Int32) (v_rests_7 : Nat → Int32) (H : Heap) (locs : List Loc) (ls : Array Slot), s_Landings_learn_c7 p1 n_7 x3_7 v_rests_7 = some (o_v_rests, o_v_walls) → va_P G vwCl [(h, .inr (1, [.ref h_rests, .long p1])), (h_rests, .inl (cI, 144, .inl v_rests_7))] H → va_D A [(h, .inr (1, [.ref h_rests, .long p1])), (h_rests, .inl (cI, 144, .inl v_rests_7))] → va_S A s.heap H locs → lv_has ls 4 [(0, .ref h), (3, .int x3_7)] → W p l e ({ frames := 2, cells := 0, slots := 0, locals := 48 } : Room) s m ([.ref h, .long p1] : List Value).toArray below meth c H locs 0 0 Q (F0 m 7 ls []) := by
      intro n_7
      induction n_7 with
      | zero =>
        intro x3_7 v_rests_7 H locs ls ho hP hD hS hl
        rw [s_Landings_learn_c7] at ho
        cases ho
      | succ n_7 ih_7 =>
        intro x3_7 v_rests_7 H locs ls ho hP hD hS hl
        rw [s_Landings_learn_c7] at ho
        refine lv_iload_n hx hb dX3_learn_7 rfl (lv_at hl 1 rfl) ?_
        refine lv_aload_n hx hb dX3_learn_8 rfl (lv_at hl 0 rfl) ?_
        refine va_get (D := G) (ci := 1) (v := .ref h_rests) (C := RX3) (T := TX3) (N := 2) hx hb hts innX3_learn_X3 hown hK hP 0 rfl rfl 0 (by decide) (hts (.fieldLink RX3 9 "DownByTheHour$Landings" "rests" "[I") (by decide +kernel)) (fun _ h9 => h9) rfl dX3_learn_9 ?_
        refine va_alen (v := (144 : Int32)) hx hb hK hP 1 0 rfl rfl rfl dX3_learn_12 ?_
        refine lv_icmp_ge (tgt := 43) hx hb dX3_learn_13 (by decide) (fun c_1 => ?_) (fun c_1 => ?_)
        · replace ho := j_ift c_1 ho
          exact hret 43 _ _ ls v_rests_7 p1 dX3_learn_43 ho hP hD hS
        · replace ho := j_iff c_1 ho
          refine lv_aload_n hx hb dX3_learn_16 rfl (lv_at hl 0 rfl) ?_
          refine va_get (D := G) (ci := 1) (v := .ref h_rests) (C := RX3) (T := TX3) (N := 2) hx hb hts innX3_learn_X3 hown hK hP 0 rfl rfl 0 (by decide) (hts (.fieldLink RX3 9 "DownByTheHour$Landings" "rests" "[I") (by decide +kernel)) (fun _ h9 => h9) rfl dX3_learn_17 ?_
          refine lv_iload_n hx hb dX3_learn_20 rfl (lv_at hl 1 rfl) ?_
          refine lv_aload_n hx hb dX3_learn_21 rfl (lv_at hl 0 rfl) ?_
          refine va_get (D := G) (ci := 1) (v := .long p1) (C := RX3) (T := TX3) (N := 2) hx hb hts innX3_learn_X3 hown hK hP 0 rfl rfl 1 (by decide) (hts (.fieldLink RX3 15 "DownByTheHour$Landings" "walls" "J") (by decide +kernel)) (fun _ h9 => h9) rfl dX3_learn_22 ?_
          refine lv_iload_n hx hb dX3_learn_25 rfl (lv_at hl 1 rfl) ?_
          refine lv_bipush (v := (36 : Int32)) hx hb dX3_learn_26 (by decide) ?_
          refine lv_irem hx hb dX3_learn_28 (by decide) ?_
          refine lv_iload_n hx hb dX3_learn_29 rfl (lv_at hl 1 rfl) ?_
          refine lv_bipush (v := (36 : Int32)) hx hb dX3_learn_30 (by decide) ?_
          refine lv_idiv hx hb dX3_learn_32 (by decide) ?_
          obtain ⟨r_2, hg_3, ho⟩ := j_b1_some ho
          refine j_ci (va_runS (As := [.long p1, .int ((x3_7 - x3_7 / (36 : Int32) * (36 : Int32))), .int ((x3_7 / (36 : Int32)))]) (rest := [.int x3_7, .ref h_rests]) ⟨hx, hb, hml, hown, hts⟩ (c_Grid_rest l G cI cB H.size p1 ((x3_7 - x3_7 / (36 : Int32) * (36 : Int32))) ((x3_7 / (36 : Int32))) r_2 hg_3) (va_cwS 3 hts gX3_learn_X0_rest rfl rfl rfl (by decide +kernel) ⟨Nat.le_of_ble_eq_true rfl, Nat.le_of_ble_eq_true rfl⟩) (j_preS hK hP hD [] (by decide) rfl) rfl rfl hl.1 rfl (lv_room (Nat.le_of_ble_eq_true rfl)) dX3_learn_33 ⟨Nat.le_refl _, Nat.le_refl _⟩) hP hD hS hA [] [0, 1] (wr := [(h, .inr (1, [.ref h_rests, .long p1])), (h_rests, .inl (cI, 144, .inl v_rests_7))]) rfl rfl (by decide) (by decide) (fun H locs hP hD hS => ?_)
          have hP : va_P G vwCl [(h, .inr (1, [.ref h_rests, .long p1])), (h_rests, .inl (cI, 144, .inl v_rests_7))] H := hP
          have hD : va_D A [(h, .inr (1, [.ref h_rests, .long p1])), (h_rests, .inl (cI, 144, .inl v_rests_7))] := hD
          obtain ⟨hi_4, ho⟩ := j_chk_some ho
          refine va_iast hx hb hK hP hD hS 1 0 rfl rfl hi_4 dX3_learn_36 (fun H locs hP hD hS => ?_)
          have hP : va_P G vwCl [(h, .inr (1, [.ref h_rests, .long p1])), (h_rests, .inl (cI, 144, .inl (upd v_rests_7 x3_7.toNatClampNeg r_2)))] H := hP
          have hD : va_D A [(h, .inr (1, [.ref h_rests, .long p1])), (h_rests, .inl (cI, 144, .inl (upd v_rests_7 x3_7.toNatClampNeg r_2)))] := hD
          refine lv_iinc (v := (x3_7 + (1 : Int32))) (lv' := [(3, .int ((x3_7 + (1 : Int32)))), (0, .ref h)]) hx hb dX3_learn_37 hl (k := 1) rfl rfl (by decide) rfl (fun ls hl => ?_)
          refine lv_goto (tgt := 7) hx hb dX3_learn_40 (by decide) ?_
          exact ih_7 ((x3_7 + (1 : Int32))) (upd v_rests_7 x3_7.toNatClampNeg r_2) _ _ ls ho hP hD hS (lv_sub hl [1, 0] rfl)
    exact seg_7 400 (0 : Int32) v_rests _ _ ls ho hP hD hS (lv_sub hl [1, 0] rfl)
  refine main _ (fun pc H locs ls u_v_rests u_v_walls hd he hP hD hS => ?_)
  obtain ⟨rfl, rfl⟩ := j_tup2 he
  exact W.vret hx hb hr (fun t ht hW => ⟨⟨(), rfl, trivial, by rw [ht]; exact hP, va_K.moved hW.alike hK, hD⟩, hS.F ht⟩) hS.2.2 hd
