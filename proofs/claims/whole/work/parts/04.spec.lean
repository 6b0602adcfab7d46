def s_Grid_isCell (p0 : Int32) : Option (Int32) :=
  if p0 < 0 then (some ((0 : Int32)))
  else (if (36 : Int32) ≤ p0 then (some ((0 : Int32)))
  else (some ((1 : Int32))))

def s_Grid_isWay (p0 : Int32) : Option (Int32) :=
  if p0 < 0 then (some ((0 : Int32)))
  else (if (4 : Int32) ≤ p0 then (some ((0 : Int32)))
  else (some ((1 : Int32))))

def s_Grid_isIn (p0 : Int64) (p2 : Int32) : Option (Int32) :=
  if (lg_cmp ((j_lushr p0 p2) &&& (1 : Int64)) (0 : Int64)) = 0 then (some ((0 : Int32)))
  else (some ((1 : Int32)))

def s_Grid_next (p0 : Int32) (p1 : Int32) : Option (Int32) :=
  if p1 = (0 : Int32) then (if (36 : Int32) ≤ (p0 + (6 : Int32)) then (some ((-1 : Int32)))
  else (some ((p0 + (6 : Int32)))))
  else if p1 = (1 : Int32) then (if (p0 - p0 / (6 : Int32) * (6 : Int32)) ≤ 0 then (some ((-1 : Int32)))
  else (some ((p0 - (1 : Int32)))))
  else if p1 = (2 : Int32) then (if p0 < (6 : Int32) then (some ((-1 : Int32)))
  else (some ((p0 - (6 : Int32)))))
  else if p1 = (3 : Int32) then (if (5 : Int32) ≤ (p0 - p0 / (6 : Int32) * (6 : Int32)) then (some ((-1 : Int32)))
  else (some ((p0 + (1 : Int32)))))
  else (some ((-1 : Int32)))

def s_Grid_turned (p0 : Int32) (p1 : Int32) : Option (Int32) :=
  some (((p0 + p1) &&& (3 : Int32)))

def s_Grid_rest_c6 (x0 : Int64) (x3 : Int32) : Nat → Int32 → Int32 → Option (Int32)
  | 0, _, _ => none
  | n + 1, x4, x5 =>
  if (6 : Int32) ≤ x5 then (some (x4))
  else (j_b1 (s_Grid_next x4 x3) (fun r1 => if r1 < 0 then (some (x4))
  else (j_b1 (s_Grid_isIn x0 r1) (fun r2 => if r2 = 0 then (s_Grid_rest_c6 x0 x3 n r1 (x5 + (1 : Int32)))
  else (some (x4))))))

def s_Grid_rest (p0 : Int64) (p2 : Int32) (p3 : Int32) : Option (Int32) :=
  s_Grid_rest_c6 p0 p3 400 p2 (1 : Int32)

def s_House_wallAt (p1 : Int32) (v_walls : Int64) : Option (Int32) :=
  j_b1 (s_Grid_isIn v_walls p1) (fun r1 => if r1 = 0 then (some ((0 : Int32)))
  else (some ((1 : Int32))))

def s_House_setWall (p1 : Int32) (p2 : Int32) (v_walls : Int64) : Option (Int64) :=
  if p2 = (1 : Int32) then (some ((v_walls ||| (j_lshl (1 : Int64) p1))))
  else (some ((v_walls &&& ((j_lshl (1 : Int64) p1) ^^^ (-1 : Int64)))))

def s_Law_isTold (v_stepCount : Int32) : Option (Int32) :=
  if v_stepCount ≤ 0 then (some ((0 : Int32)))
  else (some ((1 : Int32)))

def s_Law_joined (p0 : Int32) (p1 : Int32) (p2 : Int32) : Option (Int32) :=
  if p0 = (37 : Int32) then (if p2 = 0 then (some ((0 : Int32)))
  else (j_dv p2 (some ((p1 - p1 / p2 * p2)))))
  else if p0 = (38 : Int32) then (if p1 = 0 then (some ((0 : Int32)))
  else (if p2 = 0 then (some ((0 : Int32)))
  else (some ((1 : Int32)))))
  else if p0 = (42 : Int32) then (some ((p1 * p2)))
  else if p0 = (43 : Int32) then (some ((p1 + p2)))
  else if p0 = (45 : Int32) then (some ((p1 - p2)))
  else if p0 = (47 : Int32) then (if p2 = 0 then (some ((0 : Int32)))
  else (j_dv p2 (some ((p1 / p2)))))
  else if p0 = (60 : Int32) then (if p2 ≤ p1 then (some ((0 : Int32)))
  else (some ((1 : Int32))))
  else if p0 = (61 : Int32) then (if p1 = p2 then (some ((1 : Int32)))
  else (some ((0 : Int32))))
  else if p0 = (62 : Int32) then (if p1 ≤ p2 then (some ((0 : Int32)))
  else (some ((1 : Int32))))
  else if p0 = (124 : Int32) then (if p1 = 0 then (if p2 = 0 then (some ((0 : Int32)))
  else (some ((1 : Int32))))
  else (some ((1 : Int32))))
  else (some ((0 : Int32)))

def s_Law_named (p0 : Int32) (p1 : Int32) (p2 : Int32) (p3 : Int32) : Option (Int32) :=
  if p0 = 0 then (some (p1))
  else (if p0 = (1 : Int32) then (some (p2))
  else (some (p3)))

def s_Law_work_c190 (v_stack : Nat → Int32) : Option (Int32 × (Nat → Int32)) :=
  some ((v_stack (0 : Int32).toNatClampNeg), v_stack)

def s_Law_work_c184 (k_6 : Int32 → Int32 → (Nat → Int32) → (Option (Int32 × (Nat → Int32)))) (x5 : Int32) (x4 : Int32) (v_stack : Nat → Int32) : Option (Int32 × (Nat → Int32)) :=
  k_6 x4 (x5 + (1 : Int32)) v_stack

def s_Law_work_c130 (k_6 : Int32 → Int32 → (Nat → Int32) → (Option (Int32 × (Nat → Int32)))) (x4 : Int32) (x5 : Int32) (v_stack : Nat → Int32) (k1 : Int32) (k2 : Int32) : Option (Int32 × (Nat → Int32)) :=
  j_chk k1 60 (s_Law_work_c184 k_6 x5 x4 (upd v_stack k1.toNatClampNeg k2))

def s_Law_work_c77 (k_6 : Int32 → Int32 → (Nat → Int32) → (Option (Int32 × (Nat → Int32)))) (x4 : Int32) (x5 : Int32) (v_stack : Nat → Int32) (k1 : Int32) (k2 : Int32) : Option (Int32 × (Nat → Int32)) :=
  j_chk k1 60 (s_Law_work_c184 k_6 x5 (x4 + (1 : Int32)) (upd v_stack k1.toNatClampNeg k2))

def s_Law_work_c6 (x1 : Int32) (x2 : Int32) (x3 : Int32) (v_steps : Nat → Int32) (v_stepCount : Int32) : Nat → Int32 → Int32 → (Nat → Int32) → (Option (Int32 × (Nat → Int32)))
  | 0, _, _, _ => none
  | n + 1, x4, x5, v_stack =>
  if v_stepCount ≤ x5 then (s_Law_work_c190 v_stack)
  else (if (60 : Int32) ≤ x5 then (s_Law_work_c190 v_stack)
  else (j_chk x5 60 (if (20000 : Int32) ≤ (v_steps x5.toNatClampNeg) then (if (v_steps x5.toNatClampNeg) = (20033 : Int32) then (if x4 < (1 : Int32) then (s_Law_work_c184 (s_Law_work_c6 x1 x2 x3 v_steps v_stepCount n) x5 x4 v_stack)
  else (if (60 : Int32) < x4 then (s_Law_work_c184 (s_Law_work_c6 x1 x2 x3 v_steps v_stepCount n) x5 x4 v_stack)
  else (j_chk ((x4 - (1 : Int32))) 60 (if (v_stack (x4 - (1 : Int32)).toNatClampNeg) = 0 then (s_Law_work_c130 (s_Law_work_c6 x1 x2 x3 v_steps v_stepCount n) x4 x5 v_stack (x4 - (1 : Int32)) (1 : Int32))
  else (s_Law_work_c130 (s_Law_work_c6 x1 x2 x3 v_steps v_stepCount n) x4 x5 v_stack (x4 - (1 : Int32)) (0 : Int32))))))
  else (if x4 < (2 : Int32) then (s_Law_work_c184 (s_Law_work_c6 x1 x2 x3 v_steps v_stepCount n) x5 x4 v_stack)
  else (if (60 : Int32) < x4 then (s_Law_work_c184 (s_Law_work_c6 x1 x2 x3 v_steps v_stepCount n) x5 x4 v_stack)
  else (j_chk (((x4 + (-1 : Int32)) - (1 : Int32))) 60 (j_chk ((x4 + (-1 : Int32))) 60 (j_b1 (s_Law_joined ((v_steps x5.toNatClampNeg) - (20000 : Int32)) (v_stack ((x4 + (-1 : Int32)) - (1 : Int32)).toNatClampNeg) (v_stack (x4 + (-1 : Int32)).toNatClampNeg)) (fun r1 => j_chk (((x4 + (-1 : Int32)) - (1 : Int32))) 60 (s_Law_work_c184 (s_Law_work_c6 x1 x2 x3 v_steps v_stepCount n) x5 (x4 + (-1 : Int32)) (upd v_stack ((x4 + (-1 : Int32)) - (1 : Int32)).toNatClampNeg r1)))))))))
  else (if (60 : Int32) ≤ x4 then (s_Law_work_c184 (s_Law_work_c6 x1 x2 x3 v_steps v_stepCount n) x5 x4 v_stack)
  else (if (10000 : Int32) ≤ (v_steps x5.toNatClampNeg) then (j_b1 (s_Law_named ((v_steps x5.toNatClampNeg) - (10000 : Int32)) x1 x2 x3) (fun r2 => s_Law_work_c77 (s_Law_work_c6 x1 x2 x3 v_steps v_stepCount n) x4 x5 v_stack x4 r2))
  else (s_Law_work_c77 (s_Law_work_c6 x1 x2 x3 v_steps v_stepCount n) x4 x5 v_stack x4 (v_steps x5.toNatClampNeg)))))))

def s_Law_work (p1 : Int32) (p2 : Int32) (p3 : Int32) (v_steps : Nat → Int32) (v_stack : Nat → Int32) (v_stepCount : Int32) : Option (Int32 × (Nat → Int32)) :=
  s_Law_work_c6 p1 p2 p3 v_steps v_stepCount 400 (0 : Int32) (0 : Int32) v_stack

def s_Math_floorMod (p0 : Int32) (p1 : Int32) : Option (Int32) :=
  j_dv p1 (if 0 ≤ (p0 ^^^ p1) then (some ((p0 - p0 / p1 * p1)))
  else (if (p0 - p0 / p1 * p1) = 0 then (some ((p0 - p0 / p1 * p1)))
  else (some (((p0 - p0 / p1 * p1) + p1)))))

def s_House_pullBy_c26 (k0 : Int32) (v_pullLaw_stack : Nat → Int32) : Option (Int32 × (Nat → Int32)) :=
  j_b1 (s_Math_floorMod k0 (4 : Int32)) (fun r2 => some (r2, v_pullLaw_stack))

def s_House_pullBy (p1 : Int32) (p2 : Int32) (p3 : Int32) (v_pullLaw_steps : Nat → Int32) (v_pullLaw_stack : Nat → Int32) (v_pullLaw_stepCount : Int32) : Option (Int32 × (Nat → Int32)) :=
  j_b1 (s_Law_isTold v_pullLaw_stepCount) (fun r1 => if r1 = 0 then (s_House_pullBy_c26 (p1 / (3 : Int32)) v_pullLaw_stack)
  else (j_b2 (s_Law_work p1 p2 p3 v_pullLaw_steps v_pullLaw_stack v_pullLaw_stepCount) (fun r3 u4_stack => s_House_pullBy_c26 r3 u4_stack)))

def s_House_pullAt (p1 : Int32) (v_things_count : Int32) (v_pullLaw_steps : Nat → Int32) (v_pullLaw_stack : Nat → Int32) (v_pullLaw_stepCount : Int32) : Option (Int32 × (Nat → Int32)) :=
  j_b2 (s_House_pullBy p1 (p1 / (12 : Int32)) v_things_count v_pullLaw_steps v_pullLaw_stack v_pullLaw_stepCount) (fun r1 u2_stack => some (r1, u2_stack))

def s_House_breaksBy (p1 : Int32) (p2 : Int32) (p3 : Int32) (v_breakLaw_steps : Nat → Int32) (v_breakLaw_stack : Nat → Int32) (v_breakLaw_stepCount : Int32) : Option (Int32 × (Nat → Int32)) :=
  j_b1 (s_Law_isTold v_breakLaw_stepCount) (fun r1 => if r1 = 0 then (if p1 ≤ (3 : Int32) then (some ((0 : Int32), v_breakLaw_stack))
  else (some ((1 : Int32), v_breakLaw_stack)))
  else (j_b2 (s_Law_work p1 p2 p3 v_breakLaw_steps v_breakLaw_stack v_breakLaw_stepCount) (fun r2 u3_stack => if r2 = 0 then (some ((0 : Int32), u3_stack))
  else (some ((1 : Int32), u3_stack)))))

def s_House_draw (v_z : Int32) : Option (Int32 × Int32) :=
  some ((j_iushr ((v_z * (1103515245 : Int32)) + (12345 : Int32)) (8 : Int32)), ((v_z * (1103515245 : Int32)) + (12345 : Int32)))

def s_Things_has (p1 : Int32) (v_count : Int32) : Option (Int32) :=
  if p1 < 0 then (some ((0 : Int32)))
  else (if v_count ≤ p1 then (some ((0 : Int32)))
  else (if (6 : Int32) ≤ p1 then (some ((0 : Int32)))
  else (some ((1 : Int32)))))

def s_Things_slide_c82 (x1 : Int32) (x8 : Int32) (x9 : Int32) (x10 : Int32) (v_cell : Nat → Int32) (v_taken : Int64) : Option (Int32 × (Nat → Int32) × Int64) :=
  j_chk x1 6 (some (x10, (upd v_cell x1.toNatClampNeg x9), ((v_taken &&& ((j_lshl (1 : Int64) x8) ^^^ (-1 : Int64))) ||| (j_lshl (1 : Int64) x9))))

def s_Things_slide_c37 (x1 : Int32) (x2 : Int32) (x3 : Int32) (x6 : Int64) (x8 : Int32) (v_cell : Nat → Int32) (v_taken : Int64) : Nat → Int32 → Int32 → Int32 → (Option (Int32 × (Nat → Int32) × Int64))
  | 0, _, _, _ => none
  | n + 1, x9, x10, x11 =>
  if x3 ≤ x11 then (s_Things_slide_c82 x1 x8 x9 x10 v_cell v_taken)
  else (j_b1 (s_Grid_next x9 x2) (fun r2 => if r2 < 0 then (s_Things_slide_c82 x1 x8 x9 x10 v_cell v_taken)
  else (j_b1 (s_Grid_isIn x6 r2) (fun r3 => if r3 = 0 then (s_Things_slide_c37 x1 x2 x3 x6 x8 v_cell v_taken n r2 (x10 + (1 : Int32)) (x11 + (1 : Int32)))
  else (s_Things_slide_c82 x1 x8 x9 x10 v_cell v_taken)))))

def s_Things_slide (p1 : Int32) (p2 : Int32) (p3 : Int32) (p4 : Int64) (v_cell : Nat → Int32) (v_count : Int32) (v_taken : Int64) : Option (Int32 × (Nat → Int32) × Int64) :=
  j_b1 (s_Things_has p1 v_count) (fun r1 => if r1 = 0 then (some ((0 : Int32), v_cell, v_taken))
  else (j_chk p1 6 (s_Things_slide_c37 p1 p2 p3 (p4 ||| v_taken) (v_cell p1.toNatClampNeg) v_cell v_taken 400 (v_cell p1.toNatClampNeg) (0 : Int32) (0 : Int32))))

def s_Things_roll (p1 : Int32) (p2 : Int32) (p3 : Int64) (v_cell : Nat → Int32) (v_count : Int32) (v_taken : Int64) : Option (Int32 × (Nat → Int32) × Int64) :=
  j_b3 (s_Things_slide p1 p2 (6 : Int32) p3 v_cell v_count v_taken) (fun r1 u2_cell u3_taken => j_b1 (s_Grid_turned p2 (1 : Int32)) (fun r4 => j_b3 (s_Things_slide p1 r4 (1 : Int32) p3 u2_cell v_count u3_taken) (fun r5 u6_cell u7_taken => some (r1, u6_cell, u7_taken))))

def s_Things_walk (p1 : Int32) (p2 : Int32) (p3 : Int64) (v_cell : Nat → Int32) (v_count : Int32) (v_taken : Int64) : Option (Int32 × (Nat → Int32) × Int64) :=
  j_b3 (s_Things_slide p1 p2 (1 : Int32) p3 v_cell v_count v_taken) (fun r1 u2_cell u3_taken => if r1 = 0 then (j_b1 (s_Grid_turned p2 (1 : Int32)) (fun r4 => j_b3 (s_Things_slide p1 r4 (1 : Int32) p3 u2_cell v_count u3_taken) (fun r5 u6_cell u7_taken => some (r1, u6_cell, u7_taken))))
  else (some (r1, u2_cell, u3_taken)))

def s_Things_fall (p1 : Int32) (p2 : Int32) (p3 : Int64) (v_kind : Nat → Int32) (v_m : Nat → Int32) (v_cell : Nat → Int32) (v_count : Int32) (v_taken : Int64) : Option (Int32 × (Nat → Int32) × Int64) :=
  j_b1 (s_Things_has p1 v_count) (fun r1 => if r1 = 0 then (some ((0 : Int32), v_cell, v_taken))
  else (j_chk p1 6 (if (v_kind p1.toNatClampNeg) = (1 : Int32) then (j_b3 (s_Things_roll p1 p2 p3 v_cell v_count v_taken) (fun r2 u3_cell u4_taken => some (r2, u3_cell, u4_taken)))
  else if (v_kind p1.toNatClampNeg) = (2 : Int32) then (j_chk p1 6 (if p2 = ((v_m p1.toNatClampNeg) - (v_m p1.toNatClampNeg) / (4 : Int32) * (4 : Int32)) then (some ((0 : Int32), v_cell, v_taken))
  else (j_b3 (s_Things_slide p1 p2 (6 : Int32) p3 v_cell v_count v_taken) (fun r5 u6_cell u7_taken => some (r5, u6_cell, u7_taken)))))
  else if (v_kind p1.toNatClampNeg) = (3 : Int32) then (j_b3 (s_Things_walk p1 p2 p3 v_cell v_count v_taken) (fun r8 u9_cell u10_taken => some (r8, u9_cell, u10_taken)))
  else if (v_kind p1.toNatClampNeg) = (4 : Int32) then (j_b3 (s_Things_roll p1 p2 p3 v_cell v_count v_taken) (fun r11 u12_cell u13_taken => j_b3 (s_Things_roll p1 p2 p3 u12_cell v_count u13_taken) (fun r14 u15_cell u16_taken => some ((if r11 < r14 then r14 else r11), u15_cell, u16_taken))))
  else if (v_kind p1.toNatClampNeg) = (5 : Int32) then (j_chk p1 6 (if ((v_m p1.toNatClampNeg) - (v_m p1.toNatClampNeg) / (2 : Int32) * (2 : Int32)) = (1 : Int32) then (some ((0 : Int32), v_cell, v_taken))
  else (j_chk p1 6 (if p2 = ((v_m p1.toNatClampNeg) - (v_m p1.toNatClampNeg) / (4 : Int32) * (4 : Int32)) then (some ((0 : Int32), v_cell, v_taken))
  else (j_b3 (s_Things_slide p1 p2 (6 : Int32) p3 v_cell v_count v_taken) (fun r17 u18_cell u19_taken => some (r17, u18_cell, u19_taken)))))))
  else if (v_kind p1.toNatClampNeg) = (6 : Int32) then (j_b1 (s_Grid_turned p2 (2 : Int32)) (fun r20 => j_b3 (s_Things_slide p1 r20 (6 : Int32) p3 v_cell v_count v_taken) (fun r21 u22_cell u23_taken => some (r21, u22_cell, u23_taken))))
  else (j_b3 (s_Things_slide p1 p2 (6 : Int32) p3 v_cell v_count v_taken) (fun r24 u25_cell u26_taken => some (r24, u25_cell, u26_taken))))))

def s_House_passHour_c91 (v_things_cell : Nat → Int32) (v_things_broken : Nat → Int32) (v_things_fell : Nat → Int32) (v_things_taken : Int64) (v_hour : Int32) (v_breakLaw_stack : Nat → Int32) : Option ((Nat → Int32) × (Nat → Int32) × (Nat → Int32) × Int64 × Int32 × (Nat → Int32)) :=
  some (v_things_cell, v_things_broken, v_things_fell, v_things_taken, (v_hour + (1 : Int32)), v_breakLaw_stack)

def s_House_passHour_c85 (k_2 : Int32 → (Nat → Int32) → (Nat → Int32) → (Nat → Int32) → Int64 → (Nat → Int32) → (Option ((Nat → Int32) × (Nat → Int32) × (Nat → Int32) × Int64 × Int32 × (Nat → Int32)))) (x2 : Int32) (v_things_cell : Nat → Int32) (v_things_fell : Nat → Int32) (v_things_taken : Int64) (v_breakLaw_stack : Nat → Int32) (v_things_broken : Nat → Int32) : Option ((Nat → Int32) × (Nat → Int32) × (Nat → Int32) × Int64 × Int32 × (Nat → Int32)) :=
  k_2 (x2 + (1 : Int32)) v_things_cell v_things_broken v_things_fell v_things_taken v_breakLaw_stack

def s_House_passHour_c2 (x1 : Int32) (v_things_kind : Nat → Int32) (v_things_m : Nat → Int32) (v_things_count : Int32) (v_walls : Int64) (v_hour : Int32) (v_breakLaw_steps : Nat → Int32) (v_breakLaw_stepCount : Int32) : Nat → Int32 → (Nat → Int32) → (Nat → Int32) → (Nat → Int32) → Int64 → (Nat → Int32) → (Option ((Nat → Int32) × (Nat → Int32) × (Nat → Int32) × Int64 × Int32 × (Nat → Int32)))
  | 0, _, _, _, _, _, _ => none
  | n + 1, x2, v_things_cell, v_things_broken, v_things_fell, v_things_taken, v_breakLaw_stack =>
  if v_things_count ≤ x2 then (s_House_passHour_c91 v_things_cell v_things_broken v_things_fell v_things_taken v_hour v_breakLaw_stack)
  else (if (6 : Int32) ≤ x2 then (s_House_passHour_c91 v_things_cell v_things_broken v_things_fell v_things_taken v_hour v_breakLaw_stack)
  else (j_b3 (s_Things_fall x2 x1 v_walls v_things_kind v_things_m v_things_cell v_things_count v_things_taken) (fun r1 u2_cell u3_taken => j_chk x2 6 (j_chk x2 6 (j_chk x2 6 (j_chk x2 6 (j_b2 (s_House_breaksBy ((upd v_things_fell x2.toNatClampNeg r1) x2.toNatClampNeg) (v_things_m x2.toNatClampNeg) (v_things_kind x2.toNatClampNeg) v_breakLaw_steps v_breakLaw_stack v_breakLaw_stepCount) (fun r4 u5_stack => if r4 = 0 then (s_House_passHour_c85 (s_House_passHour_c2 x1 v_things_kind v_things_m v_things_count v_walls v_hour v_breakLaw_steps v_breakLaw_stepCount n) x2 u2_cell (upd v_things_fell x2.toNatClampNeg r1) u3_taken u5_stack v_things_broken)
  else (j_chk x2 6 (s_House_passHour_c85 (s_House_passHour_c2 x1 v_things_kind v_things_m v_things_count v_walls v_hour v_breakLaw_steps v_breakLaw_stepCount n) x2 u2_cell (upd v_things_fell x2.toNatClampNeg r1) u3_taken u5_stack (upd v_things_broken x2.toNatClampNeg (1 : Int32))))))))))))

def s_House_passHour (p1 : Int32) (v_things_kind : Nat → Int32) (v_things_m : Nat → Int32) (v_things_cell : Nat → Int32) (v_things_broken : Nat → Int32) (v_things_fell : Nat → Int32) (v_things_count : Int32) (v_things_taken : Int64) (v_walls : Int64) (v_hour : Int32) (v_breakLaw_steps : Nat → Int32) (v_breakLaw_stack : Nat → Int32) (v_breakLaw_stepCount : Int32) : Option ((Nat → Int32) × (Nat → Int32) × (Nat → Int32) × Int64 × Int32 × (Nat → Int32)) :=
  s_House_passHour_c2 p1 v_things_kind v_things_m v_things_count v_walls v_hour v_breakLaw_steps v_breakLaw_stepCount 400 (0 : Int32) v_things_cell v_things_broken v_things_fell v_things_taken v_breakLaw_stack

def s_House_tapeHasRoom (p1 : Int32) (v_tapeLength : Int32) : Option (Int32) :=
  if (60 : Int32) < (v_tapeLength + p1) then (some ((0 : Int32)))
  else (some ((1 : Int32)))

def s_House_addToTape_c3 (x1 : Int64) (x3 : Int32) : Nat → Int32 → (Nat → Int32) → Int32 → (Option ((Nat → Int32) × Int32))
  | 0, _, _, _ => none
  | n + 1, x4, v_tape, v_tapeLength =>
  if x3 ≤ x4 then (some (v_tape, v_tapeLength))
  else (if (60 : Int32) ≤ v_tapeLength then (some (v_tape, v_tapeLength))
  else (j_chk v_tapeLength 60 (s_House_addToTape_c3 x1 x3 n (x4 + (1 : Int32)) (upd v_tape v_tapeLength.toNatClampNeg (vp_nar .byte (j_i2b (j_l2i (j_lushr x1 ((8 : Int32) * x4)))))) (v_tapeLength + (1 : Int32)))))

def s_House_addToTape (p1 : Int64) (p3 : Int32) (v_tape : Nat → Int32) (v_tapeLength : Int32) : Option ((Nat → Int32) × Int32) :=
  s_House_addToTape_c3 p1 p3 400 (0 : Int32) v_tape v_tapeLength

def s_House_addWaiting (p1 : Int32) (v_waits : Int32) (v_waiting : Nat → Int32) : Option (Int32 × (Nat → Int32)) :=
  if (24 : Int32) ≤ v_waits then (some (v_waits, v_waiting))
  else (j_chk v_waits 24 (some ((v_waits + (1 : Int32)), (upd v_waiting v_waits.toNatClampNeg p1))))

def s_House_firstWaitingWrong_c2 (v_things_cell : Nat → Int32) (v_things_count : Int32) (v_waits : Int32) (v_waiting : Nat → Int32) : Nat → Int32 → Option (Int32)
  | 0, _ => none
  | n + 1, x1 =>
  if v_waits ≤ x1 then (some ((-1 : Int32)))
  else (if (24 : Int32) ≤ x1 then (some ((-1 : Int32)))
  else (j_b1 (s_Things_has x1 v_things_count) (fun r1 => if r1 = 0 then (some (x1))
  else (j_chk x1 6 (j_chk x1 24 (if (v_things_cell x1.toNatClampNeg) = (v_waiting x1.toNatClampNeg) then (s_House_firstWaitingWrong_c2 v_things_cell v_things_count v_waits v_waiting n (x1 + (1 : Int32)))
  else (some (x1))))))))

def s_House_firstWaitingWrong (v_things_cell : Nat → Int32) (v_things_count : Int32) (v_waits : Int32) (v_waiting : Nat → Int32) : Option (Int32) :=
  s_House_firstWaitingWrong_c2 v_things_cell v_things_count v_waits v_waiting 400 (0 : Int32)

def s_Law_learn_c17 (v_stepCount : Int32) (w1 : Nat → Int32) : Nat → Int32 → (Nat → Int32) → (Option ((Nat → Int32) × Int32))
  | 0, _, _ => none
  | n + 1, x3, v_steps =>
  if v_stepCount ≤ x3 then (some (v_steps, v_stepCount))
  else (j_chk x3 60 (j_chk x3 60 (s_Law_learn_c17 v_stepCount w1 n (x3 + (1 : Int32)) (upd v_steps x3.toNatClampNeg (w1 x3.toNatClampNeg)))))

def s_Law_learn (p2 : Int32) (v_steps : Nat → Int32) (v_stepCount : Int32) (w1 : Nat → Int32) : Option ((Nat → Int32) × Int32) :=
  s_Law_learn_c17 (j_min p2 (j_min (60 : Int32) (60 : Int32))) w1 400 (0 : Int32) v_steps

def s_Law_takeOver (v_steps : Nat → Int32) (v_stepCount : Int32) (w1_steps : Nat → Int32) (w1_stepCount : Int32) : Option ((Nat → Int32) × Int32) :=
  j_b2 (s_Law_learn w1_stepCount v_steps v_stepCount w1_steps) (fun u1_steps u2_stepCount => some (u1_steps, u2_stepCount))

def s_Things_takeOver_c18 (v_count : Int32) (v_taken : Int64) (w1_kind : Nat → Int32) (w1_m : Nat → Int32) (w1_cell : Nat → Int32) (w1_broken : Nat → Int32) (w1_fell : Nat → Int32) : Nat → Int32 → (Nat → Int32) → (Nat → Int32) → (Nat → Int32) → (Nat → Int32) → (Nat → Int32) → (Option ((Nat → Int32) × (Nat → Int32) × (Nat → Int32) × (Nat → Int32) × (Nat → Int32) × Int32 × Int64))
  | 0, _, _, _, _, _, _ => none
  | n + 1, x2, v_kind, v_m, v_cell, v_broken, v_fell =>
  if (6 : Int32) ≤ x2 then (some (v_kind, v_m, v_cell, v_broken, v_fell, v_count, v_taken))
  else (j_chk x2 6 (j_chk x2 6 (j_chk x2 6 (j_chk x2 6 (j_chk x2 6 (j_chk x2 6 (j_chk x2 6 (j_chk x2 6 (j_chk x2 6 (j_chk x2 6 (s_Things_takeOver_c18 v_count v_taken w1_kind w1_m w1_cell w1_broken w1_fell n (x2 + (1 : Int32)) (upd v_kind x2.toNatClampNeg (w1_kind x2.toNatClampNeg)) (upd v_m x2.toNatClampNeg (w1_m x2.toNatClampNeg)) (upd v_cell x2.toNatClampNeg (w1_cell x2.toNatClampNeg)) (upd v_broken x2.toNatClampNeg (w1_broken x2.toNatClampNeg)) (upd v_fell x2.toNatClampNeg (w1_fell x2.toNatClampNeg)))))))))))))

def s_Things_takeOver (v_kind : Nat → Int32) (v_m : Nat → Int32) (v_cell : Nat → Int32) (v_broken : Nat → Int32) (v_fell : Nat → Int32) (v_count : Int32) (v_taken : Int64) (w1_kind : Nat → Int32) (w1_m : Nat → Int32) (w1_cell : Nat → Int32) (w1_broken : Nat → Int32) (w1_fell : Nat → Int32) (w1_count : Int32) (w1_taken : Int64) : Option ((Nat → Int32) × (Nat → Int32) × (Nat → Int32) × (Nat → Int32) × (Nat → Int32) × Int32 × Int64) :=
  s_Things_takeOver_c18 w1_count w1_taken w1_kind w1_m w1_cell w1_broken w1_fell 400 (0 : Int32) v_kind v_m v_cell v_broken v_fell

def s_House_takeOver_c101 (v_things_kind : Nat → Int32) (v_things_m : Nat → Int32) (v_things_cell : Nat → Int32) (v_things_broken : Nat → Int32) (v_things_fell : Nat → Int32) (v_things_count : Int32) (v_things_taken : Int64) (v_tape : Nat → Int32) (v_walls : Int64) (v_hour : Int32) (v_z : Int32) (v_tapeLength : Int32) (v_waits : Int32) (v_pullLaw_steps : Nat → Int32) (v_pullLaw_stepCount : Int32) (v_breakLaw_steps : Nat → Int32) (v_breakLaw_stepCount : Int32) (w1_waiting : Nat → Int32) : Nat → Int32 → (Nat → Int32) → (Option ((Nat → Int32) × (Nat → Int32) × (Nat → Int32) × (Nat → Int32) × (Nat → Int32) × Int32 × Int64 × (Nat → Int32) × Int64 × Int32 × Int32 × Int32 × Int32 × (Nat → Int32) × Int32 × (Nat → Int32) × Int32 × (Nat → Int32)))
  | 0, _, _ => none
  | n + 1, x2, v_waiting =>
  if (24 : Int32) ≤ x2 then (some (v_things_kind, v_things_m, v_things_cell, v_things_broken, v_things_fell, v_things_count, v_things_taken, v_tape, v_walls, v_hour, v_z, v_tapeLength, v_waits, v_pullLaw_steps, v_pullLaw_stepCount, v_breakLaw_steps, v_breakLaw_stepCount, v_waiting))
  else (j_chk x2 24 (j_chk x2 24 (s_House_takeOver_c101 v_things_kind v_things_m v_things_cell v_things_broken v_things_fell v_things_count v_things_taken v_tape v_walls v_hour v_z v_tapeLength v_waits v_pullLaw_steps v_pullLaw_stepCount v_breakLaw_steps v_breakLaw_stepCount w1_waiting n (x2 + (1 : Int32)) (upd v_waiting x2.toNatClampNeg (w1_waiting x2.toNatClampNeg)))))

def s_House_takeOver_c67 (v_things_kind : Nat → Int32) (v_things_m : Nat → Int32) (v_things_cell : Nat → Int32) (v_things_broken : Nat → Int32) (v_things_fell : Nat → Int32) (v_things_count : Int32) (v_things_taken : Int64) (v_walls : Int64) (v_hour : Int32) (v_z : Int32) (v_tapeLength : Int32) (v_pullLaw_steps : Nat → Int32) (v_pullLaw_stepCount : Int32) (v_breakLaw_steps : Nat → Int32) (v_breakLaw_stepCount : Int32) (v_waiting : Nat → Int32) (w1_tape : Nat → Int32) (w1_waits : Int32) (w1_waiting : Nat → Int32) : Nat → Int32 → (Nat → Int32) → (Option ((Nat → Int32) × (Nat → Int32) × (Nat → Int32) × (Nat → Int32) × (Nat → Int32) × Int32 × Int64 × (Nat → Int32) × Int64 × Int32 × Int32 × Int32 × Int32 × (Nat → Int32) × Int32 × (Nat → Int32) × Int32 × (Nat → Int32)))
  | 0, _, _ => none
  | n + 1, x2, v_tape =>
  if (60 : Int32) ≤ x2 then (s_House_takeOver_c101 v_things_kind v_things_m v_things_cell v_things_broken v_things_fell v_things_count v_things_taken v_tape v_walls v_hour v_z v_tapeLength w1_waits v_pullLaw_steps v_pullLaw_stepCount v_breakLaw_steps v_breakLaw_stepCount w1_waiting 400 (0 : Int32) v_waiting)
  else (j_chk x2 60 (j_chk x2 60 (s_House_takeOver_c67 v_things_kind v_things_m v_things_cell v_things_broken v_things_fell v_things_count v_things_taken v_walls v_hour v_z v_tapeLength v_pullLaw_steps v_pullLaw_stepCount v_breakLaw_steps v_breakLaw_stepCount v_waiting w1_tape w1_waits w1_waiting n (x2 + (1 : Int32)) (upd v_tape x2.toNatClampNeg (vp_nar .byte (w1_tape x2.toNatClampNeg))))))

def s_House_takeOver (v_things_kind : Nat → Int32) (v_things_m : Nat → Int32) (v_things_cell : Nat → Int32) (v_things_broken : Nat → Int32) (v_things_fell : Nat → Int32) (v_things_count : Int32) (v_things_taken : Int64) (v_tape : Nat → Int32) (v_walls : Int64) (v_hour : Int32) (v_z : Int32) (v_tapeLength : Int32) (v_waits : Int32) (v_pullLaw_steps : Nat → Int32) (v_pullLaw_stepCount : Int32) (v_breakLaw_steps : Nat → Int32) (v_breakLaw_stepCount : Int32) (v_waiting : Nat → Int32) (w1_things_kind : Nat → Int32) (w1_things_m : Nat → Int32) (w1_things_cell : Nat → Int32) (w1_things_broken : Nat → Int32) (w1_things_fell : Nat → Int32) (w1_things_count : Int32) (w1_things_taken : Int64) (w1_tape : Nat → Int32) (w1_walls : Int64) (w1_hour : Int32) (w1_z : Int32) (w1_tapeLength : Int32) (w1_waits : Int32) (w1_pullLaw_steps : Nat → Int32) (w1_pullLaw_stepCount : Int32) (w1_breakLaw_steps : Nat → Int32) (w1_breakLaw_stepCount : Int32) (w1_waiting : Nat → Int32) : Option ((Nat → Int32) × (Nat → Int32) × (Nat → Int32) × (Nat → Int32) × (Nat → Int32) × Int32 × Int64 × (Nat → Int32) × Int64 × Int32 × Int32 × Int32 × Int32 × (Nat → Int32) × Int32 × (Nat → Int32) × Int32 × (Nat → Int32)) :=
  j_b7 (s_Things_takeOver v_things_kind v_things_m v_things_cell v_things_broken v_things_fell v_things_count v_things_taken w1_things_kind w1_things_m w1_things_cell w1_things_broken w1_things_fell w1_things_count w1_things_taken) (fun u1_kind u2_m u3_cell u4_broken u5_fell u6_count u7_taken => j_b2 (s_Law_takeOver v_pullLaw_steps v_pullLaw_stepCount w1_pullLaw_steps w1_pullLaw_stepCount) (fun u8_steps u9_stepCount => j_b2 (s_Law_takeOver v_breakLaw_steps v_breakLaw_stepCount w1_breakLaw_steps w1_breakLaw_stepCount) (fun u10_steps u11_stepCount => s_House_takeOver_c67 u1_kind u2_m u3_cell u4_broken u5_fell u6_count u7_taken w1_walls w1_hour w1_z w1_tapeLength u8_steps u9_stepCount u10_steps u11_stepCount v_waiting w1_tape w1_waits w1_waiting 400 (0 : Int32) v_tape)))

def s_Kinds_isKind (p0 : Int32) : Option (Int32) :=
  if p0 < 0 then (some ((0 : Int32)))
  else (if (7 : Int32) ≤ p0 then (some ((0 : Int32)))
  else (some ((1 : Int32))))

def s_Kinds_isKindAndNumber (p0 : Int32) : Option (Int32) :=
  if p0 < 0 then (some ((0 : Int32)))
  else (if (70 : Int32) ≤ p0 then (some ((0 : Int32)))
  else (some ((1 : Int32))))

def s_Kinds_above (p0 : Int32) : Option (Int32) :=
  j_b1 (s_Kinds_isKind p0) (fun r1 => if r1 = 0 then (some ((-1 : Int32)))
  else (j_chk p0 7 (some ((st_Kinds_ABOVE p0.toNatClampNeg)))))

def s_Kinds_isUnder_c4 (x1 : Int32) : Nat → Int32 → Int32 → Option (Int32)
  | 0, _, _ => none
  | n + 1, x2, x3 =>
  if (7 : Int32) ≤ x3 then (some ((0 : Int32)))
  else (if x2 = x1 then (some ((1 : Int32)))
  else (j_b1 (s_Kinds_above x2) (fun r1 => s_Kinds_isUnder_c4 x1 n r1 (x3 + (1 : Int32)))))

def s_Kinds_isUnder (p0 : Int32) (p1 : Int32) : Option (Int32) :=
  s_Kinds_isUnder_c4 p1 400 p0 (0 : Int32)

def s_Landings_learn_c7 (v_walls : Int64) : Nat → Int32 → (Nat → Int32) → (Option ((Nat → Int32) × Int64))
  | 0, _, _ => none
  | n + 1, x3, v_rests =>
  if (144 : Int32) ≤ x3 then (some (v_rests, v_walls))
  else (j_b1 (s_Grid_rest v_walls (x3 - x3 / (36 : Int32) * (36 : Int32)) (x3 / (36 : Int32))) (fun r1 => j_chk x3 144 (s_Landings_learn_c7 v_walls n (x3 + (1 : Int32)) (upd v_rests x3.toNatClampNeg r1))))

def s_Landings_learn (p1 : Int64) (v_rests : Nat → Int32) (v_walls : Int64) : Option ((Nat → Int32) × Int64) :=
  s_Landings_learn_c7 p1 400 (0 : Int32) v_rests

def s_Landings_rest (p1 : Int32) (p2 : Int32) (v_rests : Nat → Int32) : Option (Int32) :=
  if ((p2 * (36 : Int32)) + p1) < 0 then (some (p1))
  else (if (144 : Int32) ≤ ((p2 * (36 : Int32)) + p1) then (some (p1))
  else (j_chk (((p2 * (36 : Int32)) + p1)) 144 (some ((v_rests ((p2 * (36 : Int32)) + p1).toNatClampNeg)))))

def s_Landings_spread_c36 (k_6 : Int64 → Int32 → Option (Int64)) (x6 : Int32) (x4 : Int64) : Option (Int64) :=
  k_6 x4 (x6 + (1 : Int32))

def s_Landings_spread_c6 (x1 : Int64) (x3 : Int32) (v_rests : Nat → Int32) : Nat → Int64 → Int32 → Option (Int64)
  | 0, _, _ => none
  | n + 1, x4, x6 =>
  if (36 : Int32) ≤ x6 then (some (x4))
  else (j_b1 (s_Grid_isIn x1 x6) (fun r1 => if r1 = 0 then (s_Landings_spread_c36 (s_Landings_spread_c6 x1 x3 v_rests n) x6 x4)
  else (j_b1 (s_Landings_rest x6 x3 v_rests) (fun r2 => s_Landings_spread_c36 (s_Landings_spread_c6 x1 x3 v_rests n) x6 (x4 ||| (j_lshl (1 : Int64) r2))))))

def s_Landings_spread (p1 : Int64) (p3 : Int32) (v_rests : Nat → Int32) : Option (Int64) :=
  s_Landings_spread_c6 p1 p3 v_rests 400 (0 : Int64) (0 : Int32)

def s_Landings_gather_c48 (k_6 : Int64 → Int32 → Option (Int64)) (x6 : Int32) (x4 : Int64) : Option (Int64) :=
  k_6 x4 (x6 + (1 : Int32))

def s_Landings_gather_c6 (x1 : Int64) (x3 : Int32) (v_rests : Nat → Int32) (v_walls : Int64) : Nat → Int64 → Int32 → Option (Int64)
  | 0, _, _ => none
  | n + 1, x4, x6 =>
  if (36 : Int32) ≤ x6 then (some (x4))
  else (j_b1 (s_Grid_isIn v_walls x6) (fun r1 => if r1 = 0 then (j_b1 (s_Landings_rest x6 x3 v_rests) (fun r2 => j_b1 (s_Grid_isIn x1 r2) (fun r3 => if r3 = 0 then (s_Landings_gather_c48 (s_Landings_gather_c6 x1 x3 v_rests v_walls n) x6 x4)
  else (s_Landings_gather_c48 (s_Landings_gather_c6 x1 x3 v_rests v_walls n) x6 (x4 ||| (j_lshl (1 : Int64) x6))))))
  else (s_Landings_gather_c48 (s_Landings_gather_c6 x1 x3 v_rests v_walls n) x6 x4)))

def s_Landings_gather (p1 : Int64) (p3 : Int32) (v_rests : Nat → Int32) (v_walls : Int64) : Option (Int64) :=
  s_Landings_gather_c6 p1 p3 v_rests v_walls 400 (0 : Int64) (0 : Int32)

def s_Law_forget (v_stepCount : Int32) : Option (Int32) :=
  some ((0 : Int32))

def s_Sheets_isSheet (p0 : Int32) : Option (Int32) :=
  if p0 < 0 then (some ((0 : Int32)))
  else (if (4 : Int32) ≤ p0 then (some ((0 : Int32)))
  else (some ((1 : Int32))))

def s_Sheets_isWidth (p0 : Int32) : Option (Int32) :=
  if p0 = (8 : Int32) then (some ((1 : Int32)))
  else (if p0 = (16 : Int32) then (some ((1 : Int32)))
  else (if p0 = (32 : Int32) then (some ((1 : Int32)))
  else (some ((0 : Int32)))))

def s_Sheets_isMissing (p1 : Int32) (v_bits : Nat → Int32) : Option (Int32) :=
  j_b1 (s_Sheets_isSheet p1) (fun r1 => if r1 = 0 then (some ((1 : Int32)))
  else (j_chk p1 4 (if (v_bits p1.toNatClampNeg) = 0 then (some ((1 : Int32)))
  else (some ((0 : Int32))))))

def s_Sheets_take (p1 : Int32) (v_bits : Nat → Int32) (v_length : Nat → Int32) : Option ((Nat → Int32) × (Nat → Int32)) :=
  j_b1 (s_Sheets_isSheet p1) (fun r1 => if r1 = 0 then (some (v_bits, v_length))
  else (j_chk p1 4 (j_chk p1 4 (some ((upd v_bits p1.toNatClampNeg (0 : Int32)), (upd v_length p1.toNatClampNeg (0 : Int32)))))))

def s_Sheets_lay_c34 (x1 : Int32) (v_bits : Nat → Int32) (v_length : Nat → Int32) : Nat → Int32 → (Nat → Int32) → (Option ((Nat → Int32) × (Nat → Int32) × (Nat → Int32)))
  | 0, _, _ => none
  | n + 1, x4, v_numbers =>
  if (24 : Int32) ≤ x4 then (some (v_bits, v_length, v_numbers))
  else (j_chk (((x1 * (24 : Int32)) + x4)) 96 (s_Sheets_lay_c34 x1 v_bits v_length n (x4 + (1 : Int32)) (upd v_numbers ((x1 * (24 : Int32)) + x4).toNatClampNeg (0 : Int32))))

def s_Sheets_lay (p1 : Int32) (p2 : Int32) (p3 : Int32) (v_bits : Nat → Int32) (v_length : Nat → Int32) (v_numbers : Nat → Int32) : Option ((Nat → Int32) × (Nat → Int32) × (Nat → Int32)) :=
  j_b1 (s_Sheets_isSheet p1) (fun r1 => if r1 = 0 then (some (v_bits, v_length, v_numbers))
  else (if p3 < 0 then (some (v_bits, v_length, v_numbers))
  else (if (24 : Int32) < p3 then (some (v_bits, v_length, v_numbers))
  else (j_chk p1 4 (j_chk p1 4 (s_Sheets_lay_c34 p1 (upd v_bits p1.toNatClampNeg p2) (upd v_length p1.toNatClampNeg p3) 400 (0 : Int32) v_numbers))))))

def s_Sheets_hasNumber (p1 : Int32) (p2 : Int32) (v_length : Nat → Int32) : Option (Int32) :=
  j_b1 (s_Sheets_isSheet p1) (fun r1 => if r1 = 0 then (some ((0 : Int32)))
  else (if p2 < 0 then (some ((0 : Int32)))
  else (j_chk p1 4 (if (v_length p1.toNatClampNeg) ≤ p2 then (some ((0 : Int32)))
  else (if (24 : Int32) ≤ p2 then (some ((0 : Int32)))
  else (some ((1 : Int32))))))))

def s_Sheets_numberAt (p1 : Int32) (p2 : Int32) (v_length : Nat → Int32) (v_numbers : Nat → Int32) : Option (Int32) :=
  j_b1 (s_Sheets_hasNumber p1 p2 v_length) (fun r1 => if r1 = 0 then (some ((-1 : Int32)))
  else (j_chk (((p1 * (24 : Int32)) + p2)) 96 (some ((v_numbers ((p1 * (24 : Int32)) + p2).toNatClampNeg)))))

def s_Sheets_lowest (p0 : Int32) (p1 : Int32) : Option (Int32) :=
  if p0 = (8 : Int32) then (some ((j_i2b p1)))
  else (if p0 = (16 : Int32) then (some ((j_i2s p1)))
  else (some (p1)))

def s_Sheets_write (p1 : Int32) (p2 : Int32) (p3 : Int32) (v_bits : Nat → Int32) (v_length : Nat → Int32) (v_numbers : Nat → Int32) : Option ((Nat → Int32)) :=
  j_b1 (s_Sheets_hasNumber p1 p2 v_length) (fun r1 => if r1 = 0 then (some (v_numbers))
  else (j_chk p1 4 (j_b1 (s_Sheets_lowest (v_bits p1.toNatClampNeg) p3) (fun r2 => j_chk (((p1 * (24 : Int32)) + p2)) 96 (some ((upd v_numbers ((p1 * (24 : Int32)) + p2).toNatClampNeg r2)))))))

def s_Sheets_standThere (p1 : Int32) (p2 : Int32) (p3 : Int32) (v_length : Nat → Int32) : Option (Int32) :=
  j_b1 (s_Sheets_isSheet p1) (fun r1 => if r1 = 0 then (some ((0 : Int32)))
  else (if p3 < 0 then (some ((0 : Int32)))
  else (if p2 < 0 then (some ((0 : Int32)))
  else (j_chk p1 4 (if (v_length p1.toNatClampNeg) < p3 then (some ((0 : Int32)))
  else (j_chk p1 4 (if ((v_length p1.toNatClampNeg) - p3) < p2 then (some ((0 : Int32)))
  else (some ((1 : Int32))))))))))

def s_Sheets_copyNumbers (p1 : Int32) (p2 : Int32) (p3 : Int32) (p4 : Int32) (p5 : Int32) (v_length : Nat → Int32) (v_numbers : Nat → Int32) : Option ((Nat → Int32)) :=
  j_b1 (s_Sheets_standThere p1 p2 p5 v_length) (fun r1 => if r1 = 0 then (some (v_numbers))
  else (j_b1 (s_Sheets_standThere p3 p4 p5 v_length) (fun r2 => if r2 = 0 then (some (v_numbers))
  else (j_cp (((p1 * (24 : Int32)) + p2)) (((p3 * (24 : Int32)) + p4)) p5 96 96 (some ((va_cpy v_numbers v_numbers ((p1 * (24 : Int32)) + p2).toNatClampNeg ((p3 * (24 : Int32)) + p4).toNatClampNeg p5.toNatClampNeg)))))))

def s_TextReader_emit (p1 : Int32) (v_steps : Nat → Int32) (v_stepCount : Int32) : Option ((Nat → Int32) × Int32) :=
  if (60 : Int32) ≤ v_stepCount then (some (v_steps, v_stepCount))
  else (j_chk v_stepCount 60 (some ((upd v_steps v_stepCount.toNatClampNeg p1), (v_stepCount + (1 : Int32)))))

def s_TextReader_rankOf (p0 : Int32) : Option (Int32) :=
  if p0 = (37 : Int32) then (some ((4 : Int32)))
  else if p0 = (38 : Int32) then (some ((1 : Int32)))
  else if p0 = (42 : Int32) then (some ((4 : Int32)))
  else if p0 = (43 : Int32) then (some ((3 : Int32)))
  else if p0 = (45 : Int32) then (some ((3 : Int32)))
  else if p0 = (47 : Int32) then (some ((4 : Int32)))
  else if p0 = (60 : Int32) then (some ((2 : Int32)))
  else if p0 = (61 : Int32) then (some ((2 : Int32)))
  else if p0 = (62 : Int32) then (some ((2 : Int32)))
  else if p0 = (124 : Int32) then (some ((0 : Int32)))
  else (some ((-1 : Int32)))

def s_TextReader_sign (v_bytes : Nat → Int32) (v_length : Int32) (v_at : Int32) : Option (Int32) :=
  if v_at < 0 then (some ((-1 : Int32)))
  else (if v_length ≤ v_at then (some ((-1 : Int32)))
  else (if (60 : Int32) ≤ v_at then (some ((-1 : Int32)))
  else (j_chk v_at 60 (some (((v_bytes v_at.toNatClampNeg) &&& (255 : Int32)))))))

def s_TextReader_isDigit (p0 : Int32) : Option (Int32) :=
  if p0 < (48 : Int32) then (some ((0 : Int32)))
  else (if (57 : Int32) < p0 then (some ((0 : Int32)))
  else (some ((1 : Int32))))

def s_TextReader_nameOf (p1 : Int32) (v_use : Int32) : Option (Int32) :=
  if p1 = (100 : Int32) then (if v_use = 0 then (some ((1 : Int32)))
  else (some ((-1 : Int32))))
  else if p1 = (102 : Int32) then (if v_use = (1 : Int32) then (some ((0 : Int32)))
  else (some ((-1 : Int32))))
  else if p1 = (104 : Int32) then (if v_use = 0 then (some ((0 : Int32)))
  else (some ((-1 : Int32))))
  else if p1 = (107 : Int32) then (if v_use = (1 : Int32) then (some ((2 : Int32)))
  else (some ((-1 : Int32))))
  else if p1 = (109 : Int32) then (if v_use = (1 : Int32) then (some ((1 : Int32)))
  else (some ((-1 : Int32))))
  else if p1 = (110 : Int32) then (if v_use = 0 then (some ((2 : Int32)))
  else (some ((-1 : Int32))))
  else (some ((-1 : Int32)))

def s_TextReader_refuse (v_fault : Int32) (v_at : Int32) : Option (Int32) :=
  if 0 ≤ v_fault then (some (v_fault))
  else (some (v_at))

def s_TextReader_readClosing (v_fault : Int32) (v_bytes : Nat → Int32) (v_length : Int32) (v_at : Int32) : Option (Int32 × Int32) :=
  if 0 ≤ v_fault then (j_b1 (s_TextReader_refuse v_fault v_at) (fun u1_fault => some (u1_fault, v_at)))
  else (j_b1 (s_TextReader_sign v_bytes v_length v_at) (fun r2 => if r2 = (41 : Int32) then (some (v_fault, (v_at + (1 : Int32))))
  else (j_b1 (s_TextReader_refuse v_fault v_at) (fun u3_fault => some (u3_fault, v_at)))))

def s_TextReader_readNumber_c48 (x1 : Int32) (v_steps : Nat → Int32) (v_stepCount : Int32) (v_at : Int32) : Option ((Nat → Int32) × Int32 × Int32) :=
  j_b2 (s_TextReader_emit x1 v_steps v_stepCount) (fun u1_steps u2_stepCount => some (u1_steps, u2_stepCount, v_at))

def s_TextReader_readNumber_c4 (v_steps : Nat → Int32) (v_stepCount : Int32) (v_bytes : Nat → Int32) (v_length : Int32) : Nat → Int32 → Int32 → Int32 → (Option ((Nat → Int32) × Int32 × Int32))
  | 0, _, _, _ => none
  | n + 1, x1, x2, v_at =>
  if (4 : Int32) ≤ x2 then (s_TextReader_readNumber_c48 x1 v_steps v_stepCount v_at)
  else (j_b1 (s_TextReader_sign v_bytes v_length v_at) (fun r3 => j_b1 (s_TextReader_isDigit r3) (fun r4 => if r4 = 0 then (s_TextReader_readNumber_c48 x1 v_steps v_stepCount v_at)
  else (j_b1 (s_TextReader_sign v_bytes v_length v_at) (fun r5 => s_TextReader_readNumber_c4 v_steps v_stepCount v_bytes v_length n (((x1 * (10 : Int32)) + r5) - (48 : Int32)) (x2 + (1 : Int32)) (v_at + (1 : Int32)))))))

def s_TextReader_readNumber (v_steps : Nat → Int32) (v_stepCount : Int32) (v_bytes : Nat → Int32) (v_length : Int32) (v_at : Int32) : Option ((Nat → Int32) × Int32 × Int32) :=
  s_TextReader_readNumber_c4 v_steps v_stepCount v_bytes v_length 400 (0 : Int32) (0 : Int32) v_at

def s_TextReader_readRank_c24 (g_TextReader_readPart : Int32 → Int32 → (Nat → Int32) → Int32 → Int32 → (Nat → Int32) → Int32 → Int32 → Int32 → (Option ((Nat → Int32) × Int32 × Int32 × Int32))) (x1 : Int32) (x2 : Int32) (x3 : Int32) (v_bytes : Nat → Int32) (v_length : Int32) (v_use : Int32) : Nat → Int32 → (Nat → Int32) → Int32 → Int32 → Int32 → (Option ((Nat → Int32) × Int32 × Int32 × Int32))
  | 0, _, _, _, _, _ => none
  | n + 1, x4, v_steps, v_stepCount, v_fault, v_at =>
  if x3 ≤ x4 then (some (v_steps, v_stepCount, v_fault, v_at))
  else (if 0 ≤ v_fault then (some (v_steps, v_stepCount, v_fault, v_at))
  else (j_b1 (s_TextReader_sign v_bytes v_length v_at) (fun r5 => j_b1 (s_TextReader_rankOf r5) (fun r6 => if r6 = x1 then (j_b1 (s_TextReader_sign v_bytes v_length v_at) (fun r7 => j_b4 (g_TextReader_readPart x1 x2 v_steps v_stepCount v_fault v_bytes v_length (v_at + (1 : Int32)) v_use) (fun u8_steps u9_stepCount u10_fault u11_at => j_b2 (s_TextReader_emit ((20000 : Int32) + r7) u8_steps u9_stepCount) (fun u12_steps u13_stepCount => s_TextReader_readRank_c24 g_TextReader_readPart x1 x2 x3 v_bytes v_length v_use n (x4 + (1 : Int32)) u12_steps u13_stepCount u10_fault u11_at))))
  else (some (v_steps, v_stepCount, v_fault, v_at))))))

def s_TextReader_readRank_c20 (g_TextReader_readPart : Int32 → Int32 → (Nat → Int32) → Int32 → Int32 → (Nat → Int32) → Int32 → Int32 → Int32 → (Option ((Nat → Int32) × Int32 × Int32 × Int32))) (x1 : Int32) (x2 : Int32) (v_steps : Nat → Int32) (v_stepCount : Int32) (v_fault : Int32) (v_bytes : Nat → Int32) (v_length : Int32) (v_at : Int32) (v_use : Int32) (k0 : Int32) : Option ((Nat → Int32) × Int32 × Int32 × Int32) :=
  s_TextReader_readRank_c24 g_TextReader_readPart x1 x2 k0 v_bytes v_length v_use 400 (0 : Int32) v_steps v_stepCount v_fault v_at

def so_TextReader_readRank (g_TextReader_readRank : Int32 → Int32 → (Nat → Int32) → Int32 → Int32 → (Nat → Int32) → Int32 → Int32 → Int32 → (Option ((Nat → Int32) × Int32 × Int32 × Int32))) (g_TextReader_readPart : Int32 → Int32 → (Nat → Int32) → Int32 → Int32 → (Nat → Int32) → Int32 → Int32 → Int32 → (Option ((Nat → Int32) × Int32 × Int32 × Int32))) (g_TextReader_readFactor : Int32 → (Nat → Int32) → Int32 → Int32 → (Nat → Int32) → Int32 → Int32 → Int32 → (Option ((Nat → Int32) × Int32 × Int32 × Int32))) (p1 : Int32) (p2 : Int32) (v_steps : Nat → Int32) (v_stepCount : Int32) (v_fault : Int32) (v_bytes : Nat → Int32) (v_length : Int32) (v_at : Int32) (v_use : Int32) : Option ((Nat → Int32) × Int32 × Int32 × Int32) :=
  j_b4 (g_TextReader_readPart p1 p2 v_steps v_stepCount v_fault v_bytes v_length v_at v_use) (fun u1_steps u2_stepCount u3_fault u4_at => if p1 = (2 : Int32) then (s_TextReader_readRank_c20 g_TextReader_readPart p1 p2 u1_steps u2_stepCount u3_fault v_bytes v_length u4_at v_use (1 : Int32))
  else (s_TextReader_readRank_c20 g_TextReader_readPart p1 p2 u1_steps u2_stepCount u3_fault v_bytes v_length u4_at v_use (60 : Int32)))

def s_TextReader_readPart_c20 (g_TextReader_readFactor : Int32 → (Nat → Int32) → Int32 → Int32 → (Nat → Int32) → Int32 → Int32 → Int32 → (Option ((Nat → Int32) × Int32 × Int32 × Int32))) (x2 : Int32) (v_steps : Nat → Int32) (v_stepCount : Int32) (v_fault : Int32) (v_bytes : Nat → Int32) (v_length : Int32) (v_at : Int32) (v_use : Int32) : Option ((Nat → Int32) × Int32 × Int32 × Int32) :=
  j_b4 (g_TextReader_readFactor x2 v_steps v_stepCount v_fault v_bytes v_length v_at v_use) (fun u1_steps u2_stepCount u3_fault u4_at => some (u1_steps, u2_stepCount, u3_fault, u4_at))

def so_TextReader_readPart (g_TextReader_readRank : Int32 → Int32 → (Nat → Int32) → Int32 → Int32 → (Nat → Int32) → Int32 → Int32 → Int32 → (Option ((Nat → Int32) × Int32 × Int32 × Int32))) (g_TextReader_readPart : Int32 → Int32 → (Nat → Int32) → Int32 → Int32 → (Nat → Int32) → Int32 → Int32 → Int32 → (Option ((Nat → Int32) × Int32 × Int32 × Int32))) (g_TextReader_readFactor : Int32 → (Nat → Int32) → Int32 → Int32 → (Nat → Int32) → Int32 → Int32 → Int32 → (Option ((Nat → Int32) × Int32 × Int32 × Int32))) (p1 : Int32) (p2 : Int32) (v_steps : Nat → Int32) (v_stepCount : Int32) (v_fault : Int32) (v_bytes : Nat → Int32) (v_length : Int32) (v_at : Int32) (v_use : Int32) : Option ((Nat → Int32) × Int32 × Int32 × Int32) :=
  if p1 < 0 then (s_TextReader_readPart_c20 g_TextReader_readFactor p2 v_steps v_stepCount v_fault v_bytes v_length v_at v_use)
  else (if (4 : Int32) ≤ p1 then (s_TextReader_readPart_c20 g_TextReader_readFactor p2 v_steps v_stepCount v_fault v_bytes v_length v_at v_use)
  else (j_b4 (g_TextReader_readRank (p1 + (1 : Int32)) p2 v_steps v_stepCount v_fault v_bytes v_length v_at v_use) (fun u5_steps u6_stepCount u7_fault u8_at => some (u5_steps, u6_stepCount, u7_fault, u8_at))))

def s_TextReader_readFactor_c92 (g_TextReader_readRank : Int32 → Int32 → (Nat → Int32) → Int32 → Int32 → (Nat → Int32) → Int32 → Int32 → Int32 → (Option ((Nat → Int32) × Int32 × Int32 × Int32))) (x1 : Int32) (x2 : Int32) (v_steps : Nat → Int32) (v_stepCount : Int32) (v_fault : Int32) (v_bytes : Nat → Int32) (v_length : Int32) (v_at : Int32) (v_use : Int32) : Option ((Nat → Int32) × Int32 × Int32 × Int32) :=
  if x2 = (40 : Int32) then (if (5 : Int32) ≤ x1 then (j_b1 (s_TextReader_refuse v_fault v_at) (fun u5_fault => some (v_steps, v_stepCount, u5_fault, v_at)))
  else (j_b4 (g_TextReader_readRank (0 : Int32) (x1 + (1 : Int32)) v_steps v_stepCount v_fault v_bytes v_length (v_at + (1 : Int32)) v_use) (fun u6_steps u7_stepCount u8_fault u9_at => j_b2 (s_TextReader_readClosing u8_fault v_bytes v_length u9_at) (fun u10_fault u11_at => some (u6_steps, u7_stepCount, u10_fault, u11_at)))))
  else (j_b1 (s_TextReader_refuse v_fault v_at) (fun u4_fault => some (v_steps, v_stepCount, u4_fault, v_at)))

def so_TextReader_readFactor (g_TextReader_readRank : Int32 → Int32 → (Nat → Int32) → Int32 → Int32 → (Nat → Int32) → Int32 → Int32 → Int32 → (Option ((Nat → Int32) × Int32 × Int32 × Int32))) (g_TextReader_readPart : Int32 → Int32 → (Nat → Int32) → Int32 → Int32 → (Nat → Int32) → Int32 → Int32 → Int32 → (Option ((Nat → Int32) × Int32 × Int32 × Int32))) (g_TextReader_readFactor : Int32 → (Nat → Int32) → Int32 → Int32 → (Nat → Int32) → Int32 → Int32 → Int32 → (Option ((Nat → Int32) × Int32 × Int32 × Int32))) (p1 : Int32) (v_steps : Nat → Int32) (v_stepCount : Int32) (v_fault : Int32) (v_bytes : Nat → Int32) (v_length : Int32) (v_at : Int32) (v_use : Int32) : Option ((Nat → Int32) × Int32 × Int32 × Int32) :=
  j_b1 (s_TextReader_sign v_bytes v_length v_at) (fun r1 => j_b1 (s_TextReader_isDigit r1) (fun r2 => if r2 = 0 then (j_b1 (s_TextReader_nameOf r1 v_use) (fun r3 => if r3 < 0 then (if r1 = (33 : Int32) then (if (5 : Int32) ≤ p1 then (s_TextReader_readFactor_c92 g_TextReader_readRank p1 r1 v_steps v_stepCount v_fault v_bytes v_length v_at v_use)
  else (j_b4 (g_TextReader_readPart (4 : Int32) (p1 + (1 : Int32)) v_steps v_stepCount v_fault v_bytes v_length (v_at + (1 : Int32)) v_use) (fun u12_steps u13_stepCount u14_fault u15_at => j_b2 (s_TextReader_emit (20033 : Int32) u12_steps u13_stepCount) (fun u16_steps u17_stepCount => some (u16_steps, u17_stepCount, u14_fault, u15_at)))))
  else (s_TextReader_readFactor_c92 g_TextReader_readRank p1 r1 v_steps v_stepCount v_fault v_bytes v_length v_at v_use))
  else (j_b1 (s_TextReader_nameOf r1 v_use) (fun r18 => j_b2 (s_TextReader_emit ((10000 : Int32) + r18) v_steps v_stepCount) (fun u19_steps u20_stepCount => some (u19_steps, u20_stepCount, v_fault, (v_at + (1 : Int32))))))))
  else (j_b3 (s_TextReader_readNumber v_steps v_stepCount v_bytes v_length v_at) (fun u21_steps u22_stepCount u23_at => some (u21_steps, u22_stepCount, v_fault, u23_at)))))

def sr_TextReader : Nat → (Int32 → Int32 → (Nat → Int32) → Int32 → Int32 → (Nat → Int32) → Int32 → Int32 → Int32 → (Option ((Nat → Int32) × Int32 × Int32 × Int32))) × (Int32 → Int32 → (Nat → Int32) → Int32 → Int32 → (Nat → Int32) → Int32 → Int32 → Int32 → (Option ((Nat → Int32) × Int32 × Int32 × Int32))) × (Int32 → (Nat → Int32) → Int32 → Int32 → (Nat → Int32) → Int32 → Int32 → Int32 → (Option ((Nat → Int32) × Int32 × Int32 × Int32)))
  | 0 => ((fun _ _ _ _ _ _ _ _ _ => none), (fun _ _ _ _ _ _ _ _ _ => none), (fun _ _ _ _ _ _ _ _ => none))
  | d + 1 => (so_TextReader_readRank ((sr_TextReader d).1) ((sr_TextReader d).2.1) ((sr_TextReader d).2.2), so_TextReader_readPart ((sr_TextReader d).1) ((sr_TextReader d).2.1) ((sr_TextReader d).2.2), so_TextReader_readFactor ((sr_TextReader d).1) ((sr_TextReader d).2.1) ((sr_TextReader d).2.2))

def s_TextReader_readRank (d : Nat) : Int32 → Int32 → (Nat → Int32) → Int32 → Int32 → (Nat → Int32) → Int32 → Int32 → Int32 → (Option ((Nat → Int32) × Int32 × Int32 × Int32)) := (sr_TextReader d).1

def s_TextReader_readPart (d : Nat) : Int32 → Int32 → (Nat → Int32) → Int32 → Int32 → (Nat → Int32) → Int32 → Int32 → Int32 → (Option ((Nat → Int32) × Int32 × Int32 × Int32)) := (sr_TextReader d).2.1

def s_TextReader_readFactor (d : Nat) : Int32 → (Nat → Int32) → Int32 → Int32 → (Nat → Int32) → Int32 → Int32 → Int32 → (Option ((Nat → Int32) × Int32 × Int32 × Int32)) := (sr_TextReader d).2.2

theorem s_TextReader_readRank_succ (d : Nat) : s_TextReader_readRank (d + 1) = so_TextReader_readRank (s_TextReader_readRank d) (s_TextReader_readPart d) (s_TextReader_readFactor d) := rfl

theorem s_TextReader_readPart_succ (d : Nat) : s_TextReader_readPart (d + 1) = so_TextReader_readPart (s_TextReader_readRank d) (s_TextReader_readPart d) (s_TextReader_readFactor d) := rfl

theorem s_TextReader_readFactor_succ (d : Nat) : s_TextReader_readFactor (d + 1) = so_TextReader_readFactor (s_TextReader_readRank d) (s_TextReader_readPart d) (s_TextReader_readFactor d) := rfl

def s_TextReader_read_c21 (x3 : Int32) (v_steps : Nat → Int32) (v_length : Int32) (w1 : Nat → Int32) : Nat → Int32 → (Nat → Int32) → (Option ((Nat → Int32) × Int32 × Int32 × (Nat → Int32) × Int32 × Int32 × Int32))
  | 0, _, _ => none
  | n + 1, x4, v_bytes =>
  if v_length ≤ x4 then (j_b4 (s_TextReader_readRank 80 (0 : Int32) (0 : Int32) v_steps (0 : Int32) (-1 : Int32) v_bytes v_length (0 : Int32) x3) (fun u1_steps u2_stepCount u3_fault u4_at => if v_length ≤ u4_at then (some (u1_steps, u2_stepCount, u3_fault, v_bytes, v_length, u4_at, x3))
  else (j_b1 (s_TextReader_refuse u3_fault u4_at) (fun u5_fault => some (u1_steps, u2_stepCount, u5_fault, v_bytes, v_length, u4_at, x3)))))
  else (j_chk x4 60 (j_chk x4 60 (s_TextReader_read_c21 x3 v_steps v_length w1 n (x4 + (1 : Int32)) (upd v_bytes x4.toNatClampNeg (vp_nar .byte (w1 x4.toNatClampNeg))))))

def s_TextReader_read (p2 : Int32) (p3 : Int32) (v_steps : Nat → Int32) (v_stepCount : Int32) (v_fault : Int32) (v_bytes : Nat → Int32) (v_length : Int32) (v_at : Int32) (v_use : Int32) (w1 : Nat → Int32) : Option ((Nat → Int32) × Int32 × Int32 × (Nat → Int32) × Int32 × Int32 × Int32) :=
  s_TextReader_read_c21 p3 v_steps (j_min p2 (j_min (60 : Int32) (60 : Int32))) w1 400 (0 : Int32) v_bytes

def s_Things_isFull (v_count : Int32) : Option (Int32) :=
  if v_count < (6 : Int32) then (some ((0 : Int32)))
  else (some ((1 : Int32)))

def s_Things_inCell_c2 (x1 : Int32) (v_cell : Nat → Int32) (v_count : Int32) : Nat → Int32 → Option (Int32)
  | 0, _ => none
  | n + 1, x2 =>
  if v_count ≤ x2 then (some ((-1 : Int32)))
  else (if (6 : Int32) ≤ x2 then (some ((-1 : Int32)))
  else (j_chk x2 6 (if (v_cell x2.toNatClampNeg) = x1 then (some (x2))
  else (s_Things_inCell_c2 x1 v_cell v_count n (x2 + (1 : Int32))))))

def s_Things_inCell (p1 : Int32) (v_cell : Nat → Int32) (v_count : Int32) : Option (Int32) :=
  s_Things_inCell_c2 p1 v_cell v_count 400 (0 : Int32)

def s_Things_setKind (p1 : Int32) (p2 : Int32) (v_kind : Nat → Int32) (v_m : Nat → Int32) (v_count : Int32) : Option ((Nat → Int32) × (Nat → Int32)) :=
  j_b1 (s_Things_has p1 v_count) (fun r1 => if r1 = 0 then (some (v_kind, v_m))
  else (j_chk p1 6 (j_chk p1 6 (some ((upd v_kind p1.toNatClampNeg (p2 / (10 : Int32))), (upd v_m p1.toNatClampNeg (p2 - p2 / (10 : Int32) * (10 : Int32))))))))

def s_Things_add (p1 : Int32) (p2 : Int32) (v_kind : Nat → Int32) (v_m : Nat → Int32) (v_cell : Nat → Int32) (v_broken : Nat → Int32) (v_fell : Nat → Int32) (v_count : Int32) (v_taken : Int64) : Option (Int32 × (Nat → Int32) × (Nat → Int32) × (Nat → Int32) × (Nat → Int32) × (Nat → Int32) × Int32 × Int64) :=
  j_b1 (s_Things_isFull v_count) (fun r1 => if r1 = 0 then (j_b2 (s_Things_setKind v_count p1 v_kind v_m (v_count + (1 : Int32))) (fun u2_kind u3_m => j_chk v_count 6 (j_chk v_count 6 (j_chk v_count 6 (some (v_count, u2_kind, u3_m, (upd v_cell v_count.toNatClampNeg p2), (upd v_broken v_count.toNatClampNeg (0 : Int32)), (upd v_fell v_count.toNatClampNeg (0 : Int32)), (v_count + (1 : Int32)), (v_taken ||| (j_lshl (1 : Int64) p2))))))))
  else (some ((-1 : Int32), v_kind, v_m, v_cell, v_broken, v_fell, v_count, v_taken)))

def s_Things_place (p1 : Int32) (p2 : Int32) (v_cell : Nat → Int32) (v_count : Int32) (v_taken : Int64) : Option ((Nat → Int32) × Int64) :=
  j_b1 (s_Things_has p1 v_count) (fun r1 => if r1 = 0 then (some (v_cell, v_taken))
  else (j_chk p1 6 (j_chk p1 6 (some ((upd v_cell p1.toNatClampNeg p2), ((v_taken &&& ((j_lshl (1 : Int64) (v_cell p1.toNatClampNeg)) ^^^ (-1 : Int64))) ||| (j_lshl (1 : Int64) p2)))))))

def s_Things_ofThing (p1 : Int32) (p2 : Int32) (v_kind : Nat → Int32) (v_m : Nat → Int32) (v_cell : Nat → Int32) (v_broken : Nat → Int32) (v_fell : Nat → Int32) (v_count : Int32) : Option (Int32) :=
  j_b1 (s_Things_has p1 v_count) (fun r1 => if r1 = 0 then (some ((0 : Int32)))
  else (if p2 = (0 : Int32) then (j_chk p1 6 (some ((v_kind p1.toNatClampNeg))))
  else if p2 = (1 : Int32) then (j_chk p1 6 (some ((v_m p1.toNatClampNeg))))
  else if p2 = (2 : Int32) then (j_chk p1 6 (some ((v_cell p1.toNatClampNeg))))
  else if p2 = (3 : Int32) then (j_chk p1 6 (some ((v_broken p1.toNatClampNeg))))
  else (j_chk p1 6 (some ((v_fell p1.toNatClampNeg))))))

def s_Things_brokenCount_c4 (v_broken : Nat → Int32) (v_count : Int32) : Nat → Int32 → Int32 → Option (Int32)
  | 0, _, _ => none
  | n + 1, x1, x2 =>
  if v_count ≤ x2 then (some (x1))
  else (if (6 : Int32) ≤ x2 then (some (x1))
  else (j_chk x2 6 (s_Things_brokenCount_c4 v_broken v_count n (x1 + (v_broken x2.toNatClampNeg)) (x2 + (1 : Int32)))))

def s_Things_brokenCount (v_broken : Nat → Int32) (v_count : Int32) : Option (Int32) :=
  s_Things_brokenCount_c4 v_broken v_count 400 (0 : Int32) (0 : Int32)

def s_Thought_foresee_c3 (x2 : Int32) (x3 : Int32) (w1_things_count : Int32) (w1_pullLaw_steps : Nat → Int32) (w1_pullLaw_stepCount : Int32) : Nat → Int32 → (Nat → Int32) → (Nat → Int32) → (Option ((Nat → Int32) × (Nat → Int32)))
  | 0, _, _, _ => none
  | n + 1, x4, v_pulls, w1_pullLaw_stack =>
  if x3 ≤ x4 then (some (v_pulls, w1_pullLaw_stack))
  else (if (100 : Int32) ≤ x4 then (some (v_pulls, w1_pullLaw_stack))
  else (j_b2 (s_House_pullAt (x2 + x4) w1_things_count w1_pullLaw_steps w1_pullLaw_stack w1_pullLaw_stepCount) (fun r1 u2_stack => j_chk x4 100 (s_Thought_foresee_c3 x2 x3 w1_things_count w1_pullLaw_steps w1_pullLaw_stepCount n (x4 + (1 : Int32)) (upd v_pulls x4.toNatClampNeg r1) u2_stack))))

def s_Thought_foresee (p2 : Int32) (p3 : Int32) (v_pulls : Nat → Int32) (w1_things_count : Int32) (w1_pullLaw_steps : Nat → Int32) (w1_pullLaw_stack : Nat → Int32) (w1_pullLaw_stepCount : Int32) : Option ((Nat → Int32) × (Nat → Int32)) :=
  s_Thought_foresee_c3 p2 p3 w1_things_count w1_pullLaw_steps w1_pullLaw_stepCount 400 (0 : Int32) v_pulls w1_pullLaw_stack

def s_Thought_pullOf (p1 : Int32) (v_pulls : Nat → Int32) : Option (Int32) :=
  if p1 < 0 then (some ((0 : Int32)))
  else (if (100 : Int32) ≤ p1 then (some ((0 : Int32)))
  else (j_chk p1 100 (some ((v_pulls p1.toNatClampNeg)))))

def s_Thought_passHour_c77 (k_6 : Int32 → Int32 → (Nat → Int32) → (Nat → Int32) → Int64 → (Option (Int32 × (Nat → Int32) × (Nat → Int32) × Int64))) (x4 : Int32) (x5 : Int32) (v_things_fell : Nat → Int32) (k1 : Int32) (k2 : Int32) (v_things_cell : Nat → Int32) (v_things_taken : Int64) : Option (Int32 × (Nat → Int32) × (Nat → Int32) × Int64) :=
  j_chk k1 6 (j_chk x5 6 (j_let ((if x4 < ((upd v_things_fell k1.toNatClampNeg k2) x5.toNatClampNeg) then ((upd v_things_fell k1.toNatClampNeg k2) x5.toNatClampNeg) else x4)) (fun x4_93 => k_6 x4_93 (x5 + (1 : Int32)) v_things_cell (upd v_things_fell k1.toNatClampNeg k2) v_things_taken)))

def s_Thought_passHour_c39 (k_6 : Int32 → Int32 → (Nat → Int32) → (Nat → Int32) → Int64 → (Option (Int32 × (Nat → Int32) × (Nat → Int32) × Int64))) (x2 : Int32) (x4 : Int32) (x5 : Int32) (v_things_kind : Nat → Int32) (v_things_m : Nat → Int32) (v_things_cell : Nat → Int32) (v_things_fell : Nat → Int32) (v_things_count : Int32) (v_things_taken : Int64) (v_pulls : Nat → Int32) (w1_walls : Int64) (k0 : Int32) : Option (Int32 × (Nat → Int32) × (Nat → Int32) × Int64) :=
  if k0 = 0 then (j_b1 (s_Thought_pullOf x2 v_pulls) (fun r1 => j_b3 (s_Things_fall x5 r1 w1_walls v_things_kind v_things_m v_things_cell v_things_count v_things_taken) (fun r2 u3_cell u4_taken => s_Thought_passHour_c77 k_6 x4 x5 v_things_fell x5 r2 u3_cell u4_taken)))
  else (s_Thought_passHour_c77 k_6 x4 x5 v_things_fell x5 (0 : Int32) v_things_cell v_things_taken)

def s_Thought_passHour_c6 (x2 : Int32) (x3 : Int32) (v_things_kind : Nat → Int32) (v_things_m : Nat → Int32) (v_things_count : Int32) (v_pulls : Nat → Int32) (w1_walls : Int64) : Nat → Int32 → Int32 → (Nat → Int32) → (Nat → Int32) → Int64 → (Option (Int32 × (Nat → Int32) × (Nat → Int32) × Int64))
  | 0, _, _, _, _, _ => none
  | n + 1, x4, x5, v_things_cell, v_things_fell, v_things_taken =>
  if v_things_count ≤ x5 then (some (x4, v_things_cell, v_things_fell, v_things_taken))
  else (if (6 : Int32) ≤ x5 then (some (x4, v_things_cell, v_things_fell, v_things_taken))
  else (if ((x3 >>> (x5 &&& 31)) &&& (1 : Int32)) = 0 then (s_Thought_passHour_c39 (s_Thought_passHour_c6 x2 x3 v_things_kind v_things_m v_things_count v_pulls w1_walls n) x2 x4 x5 v_things_kind v_things_m v_things_cell v_things_fell v_things_count v_things_taken v_pulls w1_walls (0 : Int32))
  else (s_Thought_passHour_c39 (s_Thought_passHour_c6 x2 x3 v_things_kind v_things_m v_things_count v_pulls w1_walls n) x2 x4 x5 v_things_kind v_things_m v_things_cell v_things_fell v_things_count v_things_taken v_pulls w1_walls (1 : Int32))))

def s_Thought_passHour (p2 : Int32) (p3 : Int32) (v_things_kind : Nat → Int32) (v_things_m : Nat → Int32) (v_things_cell : Nat → Int32) (v_things_fell : Nat → Int32) (v_things_count : Int32) (v_things_taken : Int64) (v_pulls : Nat → Int32) (w1_walls : Int64) : Option (Int32 × (Nat → Int32) × (Nat → Int32) × Int64) :=
  s_Thought_passHour_c6 p2 p3 v_things_kind v_things_m v_things_count v_pulls w1_walls 400 (0 : Int32) (0 : Int32) v_things_cell v_things_fell v_things_taken

def s_Thought_cellBehind_c14 (x2 : Int32) (x3 : Int32) (v_things_kind : Nat → Int32) (v_things_m : Nat → Int32) (v_things_broken : Nat → Int32) (v_things_count : Int32) (v_pulls : Nat → Int32) (w1_walls : Int64) : Nat → Int32 → (Nat → Int32) → (Nat → Int32) → Int64 → (Option (Int32 × (Nat → Int32) × (Nat → Int32) × (Nat → Int32) × (Nat → Int32) × (Nat → Int32) × Int32 × Int64))
  | 0, _, _, _, _ => none
  | n + 1, x4, v_things_cell, v_things_fell, v_things_taken =>
  if x3 ≤ x4 then (j_b1 (s_Things_has x2 v_things_count) (fun r8 => if r8 = 0 then (some ((-1 : Int32), v_things_kind, v_things_m, v_things_cell, v_things_broken, v_things_fell, v_things_count, v_things_taken))
  else (j_chk x2 6 (some ((v_things_cell x2.toNatClampNeg), v_things_kind, v_things_m, v_things_cell, v_things_broken, v_things_fell, v_things_count, v_things_taken)))))
  else (j_b4 (s_Thought_passHour x4 (0 : Int32) v_things_kind v_things_m v_things_cell v_things_fell v_things_count v_things_taken v_pulls w1_walls) (fun r9 u10_cell u11_fell u12_taken => s_Thought_cellBehind_c14 x2 x3 v_things_kind v_things_m v_things_broken v_things_count v_pulls w1_walls n (x4 + (1 : Int32)) u10_cell u11_fell u12_taken))

def s_Thought_cellBehind (p2 : Int32) (p3 : Int32) (v_things_kind : Nat → Int32) (v_things_m : Nat → Int32) (v_things_cell : Nat → Int32) (v_things_broken : Nat → Int32) (v_things_fell : Nat → Int32) (v_things_count : Int32) (v_things_taken : Int64) (v_pulls : Nat → Int32) (w1_things_kind : Nat → Int32) (w1_things_m : Nat → Int32) (w1_things_cell : Nat → Int32) (w1_things_broken : Nat → Int32) (w1_things_fell : Nat → Int32) (w1_things_count : Int32) (w1_things_taken : Int64) (w1_walls : Int64) : Option (Int32 × (Nat → Int32) × (Nat → Int32) × (Nat → Int32) × (Nat → Int32) × (Nat → Int32) × Int32 × Int64) :=
  j_b7 (s_Things_takeOver v_things_kind v_things_m v_things_cell v_things_broken v_things_fell v_things_count v_things_taken w1_things_kind w1_things_m w1_things_cell w1_things_broken w1_things_fell w1_things_count w1_things_taken) (fun u1_kind u2_m u3_cell u4_broken u5_fell u6_count u7_taken => s_Thought_cellBehind_c14 p2 p3 u1_kind u2_m u4_broken u6_count v_pulls w1_walls 400 (0 : Int32) u3_cell u5_fell u7_taken)

def s_Thought_hoursUntil_c14 (x2 : Int32) (x3 : Int32) (x4 : Int32) (v_things_kind : Nat → Int32) (v_things_m : Nat → Int32) (v_things_broken : Nat → Int32) (v_things_count : Int32) (v_pulls : Nat → Int32) (w1_walls : Int64) : Nat → Int32 → (Nat → Int32) → (Nat → Int32) → Int64 → (Option (Int32 × (Nat → Int32) × (Nat → Int32) × (Nat → Int32) × (Nat → Int32) × (Nat → Int32) × Int32 × Int64))
  | 0, _, _, _, _ => none
  | n + 1, x5, v_things_cell, v_things_fell, v_things_taken =>
  if x4 ≤ x5 then (j_b1 (s_Things_inCell x3 v_things_cell v_things_count) (fun r8 => if r8 = x2 then (some (x4, v_things_kind, v_things_m, v_things_cell, v_things_broken, v_things_fell, v_things_count, v_things_taken))
  else (some ((-1 : Int32), v_things_kind, v_things_m, v_things_cell, v_things_broken, v_things_fell, v_things_count, v_things_taken))))
  else (j_b1 (s_Things_inCell x3 v_things_cell v_things_count) (fun r9 => if r9 = x2 then (some (x5, v_things_kind, v_things_m, v_things_cell, v_things_broken, v_things_fell, v_things_count, v_things_taken))
  else (j_b4 (s_Thought_passHour x5 (0 : Int32) v_things_kind v_things_m v_things_cell v_things_fell v_things_count v_things_taken v_pulls w1_walls) (fun r10 u11_cell u12_fell u13_taken => s_Thought_hoursUntil_c14 x2 x3 x4 v_things_kind v_things_m v_things_broken v_things_count v_pulls w1_walls n (x5 + (1 : Int32)) u11_cell u12_fell u13_taken))))

def s_Thought_hoursUntil (p2 : Int32) (p3 : Int32) (p4 : Int32) (v_things_kind : Nat → Int32) (v_things_m : Nat → Int32) (v_things_cell : Nat → Int32) (v_things_broken : Nat → Int32) (v_things_fell : Nat → Int32) (v_things_count : Int32) (v_things_taken : Int64) (v_pulls : Nat → Int32) (w1_things_kind : Nat → Int32) (w1_things_m : Nat → Int32) (w1_things_cell : Nat → Int32) (w1_things_broken : Nat → Int32) (w1_things_fell : Nat → Int32) (w1_things_count : Int32) (w1_things_taken : Int64) (w1_walls : Int64) : Option (Int32 × (Nat → Int32) × (Nat → Int32) × (Nat → Int32) × (Nat → Int32) × (Nat → Int32) × Int32 × Int64) :=
  j_b7 (s_Things_takeOver v_things_kind v_things_m v_things_cell v_things_broken v_things_fell v_things_count v_things_taken w1_things_kind w1_things_m w1_things_cell w1_things_broken w1_things_fell w1_things_count w1_things_taken) (fun u1_kind u2_m u3_cell u4_broken u5_fell u6_count u7_taken => s_Thought_hoursUntil_c14 p2 p3 p4 u1_kind u2_m u4_broken u6_count v_pulls w1_walls 400 (0 : Int32) u3_cell u5_fell u7_taken)

def s_Thought_noteFarthest_c58 (k_2 : Int32 → Int32 → Int32 → Int32 → Option (Int32 × Int32 × Int32)) (x2 : Int32) (v_farthest : Int32) (v_farthestThing : Int32) (v_farthestHour : Int32) : Option (Int32 × Int32 × Int32) :=
  k_2 (x2 + (1 : Int32)) v_farthest v_farthestThing v_farthestHour

def s_Thought_noteFarthest_c2 (x1 : Int32) (v_things_fell : Nat → Int32) (v_things_count : Int32) : Nat → Int32 → Int32 → Int32 → Int32 → Option (Int32 × Int32 × Int32)
  | 0, _, _, _, _ => none
  | n + 1, x2, v_farthest, v_farthestThing, v_farthestHour =>
  if v_things_count ≤ x2 then (some (v_farthest, v_farthestThing, v_farthestHour))
  else (if (6 : Int32) ≤ x2 then (some (v_farthest, v_farthestThing, v_farthestHour))
  else (j_chk x2 6 (if (v_things_fell x2.toNatClampNeg) ≤ v_farthest then (s_Thought_noteFarthest_c58 (s_Thought_noteFarthest_c2 x1 v_things_fell v_things_count n) x2 v_farthest v_farthestThing v_farthestHour)
  else (j_chk x2 6 (s_Thought_noteFarthest_c58 (s_Thought_noteFarthest_c2 x1 v_things_fell v_things_count n) x2 (v_things_fell x2.toNatClampNeg) x2 x1)))))

def s_Thought_noteFarthest (p1 : Int32) (v_things_fell : Nat → Int32) (v_things_count : Int32) (v_farthest : Int32) (v_farthestThing : Int32) (v_farthestHour : Int32) : Option (Int32 × Int32 × Int32) :=
  s_Thought_noteFarthest_c2 p1 v_things_fell v_things_count 400 (0 : Int32) v_farthest v_farthestThing v_farthestHour

def s_Thought_fallFarthest_c28 (x2 : Int32) (v_things_kind : Nat → Int32) (v_things_m : Nat → Int32) (v_things_broken : Nat → Int32) (v_things_count : Int32) (v_pulls : Nat → Int32) (w1_walls : Int64) : Nat → Int32 → (Nat → Int32) → (Nat → Int32) → Int64 → Int32 → Int32 → Int32 → (Option ((Nat → Int32) × (Nat → Int32) × (Nat → Int32) × (Nat → Int32) × (Nat → Int32) × Int32 × Int64 × Int32 × Int32 × Int32))
  | 0, _, _, _, _, _, _, _ => none
  | n + 1, x3, v_things_cell, v_things_fell, v_things_taken, v_farthest, v_farthestThing, v_farthestHour =>
  if x2 ≤ x3 then (some (v_things_kind, v_things_m, v_things_cell, v_things_broken, v_things_fell, v_things_count, v_things_taken, v_farthest, v_farthestThing, v_farthestHour))
  else (j_b4 (s_Thought_passHour x3 (0 : Int32) v_things_kind v_things_m v_things_cell v_things_fell v_things_count v_things_taken v_pulls w1_walls) (fun r8 u9_cell u10_fell u11_taken => j_b3 (s_Thought_noteFarthest (x3 + (1 : Int32)) u10_fell v_things_count v_farthest v_farthestThing v_farthestHour) (fun u12_farthest u13_farthestThing u14_farthestHour => s_Thought_fallFarthest_c28 x2 v_things_kind v_things_m v_things_broken v_things_count v_pulls w1_walls n (x3 + (1 : Int32)) u9_cell u10_fell u11_taken u12_farthest u13_farthestThing u14_farthestHour)))

def s_Thought_fallFarthest (p2 : Int32) (v_things_kind : Nat → Int32) (v_things_m : Nat → Int32) (v_things_cell : Nat → Int32) (v_things_broken : Nat → Int32) (v_things_fell : Nat → Int32) (v_things_count : Int32) (v_things_taken : Int64) (v_pulls : Nat → Int32) (v_farthest : Int32) (v_farthestThing : Int32) (v_farthestHour : Int32) (w1_things_kind : Nat → Int32) (w1_things_m : Nat → Int32) (w1_things_cell : Nat → Int32) (w1_things_broken : Nat → Int32) (w1_things_fell : Nat → Int32) (w1_things_count : Int32) (w1_things_taken : Int64) (w1_walls : Int64) : Option ((Nat → Int32) × (Nat → Int32) × (Nat → Int32) × (Nat → Int32) × (Nat → Int32) × Int32 × Int64 × Int32 × Int32 × Int32) :=
  j_b7 (s_Things_takeOver v_things_kind v_things_m v_things_cell v_things_broken v_things_fell v_things_count v_things_taken w1_things_kind w1_things_m w1_things_cell w1_things_broken w1_things_fell w1_things_count w1_things_taken) (fun u1_kind u2_m u3_cell u4_broken u5_fell u6_count u7_taken => s_Thought_fallFarthest_c28 p2 u1_kind u2_m u4_broken u6_count v_pulls w1_walls 400 (0 : Int32) u3_cell u5_fell u7_taken (0 : Int32) (-1 : Int32) (0 : Int32))

def s_Thought_staysWithin_c14 (x2 : Int32) (x3 : Int32) (x4 : Int32) (v_things_kind : Nat → Int32) (v_things_m : Nat → Int32) (v_things_broken : Nat → Int32) (v_things_count : Int32) (v_pulls : Nat → Int32) (w1_walls : Int64) : Nat → Int32 → (Nat → Int32) → (Nat → Int32) → Int64 → (Option (Int32 × (Nat → Int32) × (Nat → Int32) × (Nat → Int32) × (Nat → Int32) × (Nat → Int32) × Int32 × Int64))
  | 0, _, _, _, _ => none
  | n + 1, x5, v_things_cell, v_things_fell, v_things_taken =>
  if x2 ≤ x5 then (some ((1 : Int32), v_things_kind, v_things_m, v_things_cell, v_things_broken, v_things_fell, v_things_count, v_things_taken))
  else (j_b4 (s_Thought_passHour x5 x4 v_things_kind v_things_m v_things_cell v_things_fell v_things_count v_things_taken v_pulls w1_walls) (fun r8 u9_cell u10_fell u11_taken => if r8 ≤ x3 then (s_Thought_staysWithin_c14 x2 x3 x4 v_things_kind v_things_m v_things_broken v_things_count v_pulls w1_walls n (x5 + (1 : Int32)) u9_cell u10_fell u11_taken)
  else (some ((0 : Int32), v_things_kind, v_things_m, u9_cell, v_things_broken, u10_fell, v_things_count, u11_taken))))

def s_Thought_staysWithin (p2 : Int32) (p3 : Int32) (p4 : Int32) (v_things_kind : Nat → Int32) (v_things_m : Nat → Int32) (v_things_cell : Nat → Int32) (v_things_broken : Nat → Int32) (v_things_fell : Nat → Int32) (v_things_count : Int32) (v_things_taken : Int64) (v_pulls : Nat → Int32) (w1_things_kind : Nat → Int32) (w1_things_m : Nat → Int32) (w1_things_cell : Nat → Int32) (w1_things_broken : Nat → Int32) (w1_things_fell : Nat → Int32) (w1_things_count : Int32) (w1_things_taken : Int64) (w1_walls : Int64) : Option (Int32 × (Nat → Int32) × (Nat → Int32) × (Nat → Int32) × (Nat → Int32) × (Nat → Int32) × Int32 × Int64) :=
  j_b7 (s_Things_takeOver v_things_kind v_things_m v_things_cell v_things_broken v_things_fell v_things_count v_things_taken w1_things_kind w1_things_m w1_things_cell w1_things_broken w1_things_fell w1_things_count w1_things_taken) (fun u1_kind u2_m u3_cell u4_broken u5_fell u6_count u7_taken => s_Thought_staysWithin_c14 p2 p3 p4 u1_kind u2_m u4_broken u6_count v_pulls w1_walls 400 (0 : Int32) u3_cell u5_fell u7_taken)

def s_Voices_begin (p1 : Int32) (v_traced : Int32) (v_trace : Nat → Int32) : Option (Int32 × (Nat → Int32)) :=
  if (30 : Int32) ≤ v_traced then (some (v_traced, v_trace))
  else (j_chk v_traced 30 (some ((v_traced + (1 : Int32)), (upd v_trace v_traced.toNatClampNeg p1))))

def s_Voices_bodyOf (p0 : Int32) (p1 : Int32) : Option (Int32) :=
  if (((4 : Int32) * p0) + p1) < 0 then (some ((0 : Int32)))
  else (if (28 : Int32) ≤ (((4 : Int32) * p0) + p1) then (some ((0 : Int32)))
  else (j_chk ((((4 : Int32) * p0) + p1)) 28 (some ((st_Voices_BODIES (((4 : Int32) * p0) + p1).toNatClampNeg)))))

def s_Voices_partsOf (p1 : Int32) (v_parted : Int32) (v_number : Int32) (v_m : Int32) : Option (Int32 × Int32) :=
  if (v_m - v_number) = 0 then (some ((0 : Int32), (1 : Int32)))
  else (j_dv (v_m - v_number) (some ((p1 / (v_m - v_number)), v_parted)))

def s_Voices_sound_c51 (g_Voices_run : Int32 → Int32 → Int32 → Int32 → Int32 → Int32 → (Nat → Int32) → Int32 → Int32 → Int32 → (Option (Int32 × Int32 × Int32 × (Nat → Int32)))) (x2 : Int32) (x3 : Int32) (x4 : Int32) (x5 : Int32) (v_parted : Int32) (v_traced : Int32) (v_trace : Nat → Int32) (v_kind : Int32) (v_number : Int32) (v_m : Int32) : Option (Int32 × Int32 × Int32 × (Nat → Int32)) :=
  j_b1 (s_Voices_bodyOf x5 x2) (fun r1 => j_b2 (s_Voices_begin r1 v_traced v_trace) (fun u2_traced u3_trace => j_b1 (s_Voices_bodyOf x5 x2) (fun r4 => j_b4 (g_Voices_run r4 x5 x3 (x4 + (1 : Int32)) v_parted u2_traced u3_trace v_kind v_number v_m) (fun r5 u6_parted u7_traced u8_trace => some (r5, u6_parted, u7_traced, u8_trace)))))

def s_Voices_sound_c22 (g_Voices_run : Int32 → Int32 → Int32 → Int32 → Int32 → Int32 → (Nat → Int32) → Int32 → Int32 → Int32 → (Option (Int32 × Int32 × Int32 × (Nat → Int32)))) (x2 : Int32) (x3 : Int32) (x4 : Int32) (v_parted : Int32) (v_traced : Int32) (v_trace : Nat → Int32) (v_kind : Int32) (v_number : Int32) (v_m : Int32) : Nat → Int32 → Int32 → (Option (Int32 × Int32 × Int32 × (Nat → Int32)))
  | 0, _, _ => none
  | n + 1, x5, x6 =>
  if (7 : Int32) ≤ x6 then (s_Voices_sound_c51 g_Voices_run x2 x3 x4 x5 v_parted v_traced v_trace v_kind v_number v_m)
  else (j_b1 (s_Voices_bodyOf x5 x2) (fun r9 => if r9 = 0 then (j_b1 (s_Kinds_above x5) (fun r10 => s_Voices_sound_c22 g_Voices_run x2 x3 x4 v_parted v_traced v_trace v_kind v_number v_m n r10 (x6 + (1 : Int32))))
  else (s_Voices_sound_c51 g_Voices_run x2 x3 x4 x5 v_parted v_traced v_trace v_kind v_number v_m)))

def so_Voices_sound (g_Voices_sound : Int32 → Int32 → Int32 → Int32 → Int32 → Int32 → (Nat → Int32) → Int32 → Int32 → Int32 → (Option (Int32 × Int32 × Int32 × (Nat → Int32)))) (g_Voices_run : Int32 → Int32 → Int32 → Int32 → Int32 → Int32 → (Nat → Int32) → Int32 → Int32 → Int32 → (Option (Int32 × Int32 × Int32 × (Nat → Int32)))) (p1 : Int32) (p2 : Int32) (p3 : Int32) (p4 : Int32) (v_parted : Int32) (v_traced : Int32) (v_trace : Nat → Int32) (v_kind : Int32) (v_number : Int32) (v_m : Int32) : Option (Int32 × Int32 × Int32 × (Nat → Int32)) :=
  if v_parted = 0 then (if p4 ≤ (12 : Int32) then (s_Voices_sound_c22 g_Voices_run p2 p3 p4 v_parted v_traced v_trace v_kind v_number v_m 400 p1 (0 : Int32))
  else (some ((0 : Int32), v_parted, v_traced, v_trace)))
  else (some ((0 : Int32), v_parted, v_traced, v_trace))

def so_Voices_run (g_Voices_sound : Int32 → Int32 → Int32 → Int32 → Int32 → Int32 → (Nat → Int32) → Int32 → Int32 → Int32 → (Option (Int32 × Int32 × Int32 × (Nat → Int32)))) (g_Voices_run : Int32 → Int32 → Int32 → Int32 → Int32 → Int32 → (Nat → Int32) → Int32 → Int32 → Int32 → (Option (Int32 × Int32 × Int32 × (Nat → Int32)))) (p1 : Int32) (p2 : Int32) (p3 : Int32) (p4 : Int32) (v_parted : Int32) (v_traced : Int32) (v_trace : Nat → Int32) (v_kind : Int32) (v_number : Int32) (v_m : Int32) : Option (Int32 × Int32 × Int32 × (Nat → Int32)) :=
  j_b1 (s_Kinds_above p2) (fun r1 => if p1 = (10 : Int32) then (some ((p3 + v_number), v_parted, v_traced, v_trace))
  else if p1 = (11 : Int32) then (j_b4 (g_Voices_sound v_kind (0 : Int32) p3 p4 v_parted v_traced v_trace v_kind v_number v_m) (fun r2 u3_parted u4_traced u5_trace => some ((r2 * (2 : Int32)), u3_parted, u4_traced, u5_trace)))
  else if p1 = (12 : Int32) then (j_b4 (g_Voices_sound v_kind (1 : Int32) p3 p4 v_parted v_traced v_trace v_kind v_number v_m) (fun r6 u7_parted u8_traced u9_trace => some ((r6 - v_m), u7_parted, u8_traced, u9_trace)))
  else if p1 = (13 : Int32) then (j_b2 (s_Voices_partsOf p3 v_parted v_number v_m) (fun r10 u11_parted => some (r10, u11_parted, v_traced, v_trace)))
  else if p1 = (20 : Int32) then (j_b4 (g_Voices_sound r1 (0 : Int32) p3 p4 v_parted v_traced v_trace v_kind v_number v_m) (fun r12 u13_parted u14_traced u15_trace => some ((r12 - (4 : Int32)), u13_parted, u14_traced, u15_trace)))
  else if p1 = (21 : Int32) then (j_b4 (g_Voices_sound r1 (3 : Int32) p3 p4 v_parted v_traced v_trace v_kind v_number v_m) (fun r16 u17_parted u18_traced u19_trace => j_b4 (g_Voices_sound v_kind (1 : Int32) (1 : Int32) p4 u17_parted u18_traced u19_trace v_kind v_number v_m) (fun r20 u21_parted u22_traced u23_trace => some ((r16 + r20), u21_parted, u22_traced, u23_trace))))
  else if p1 = (30 : Int32) then (j_b4 (g_Voices_sound r1 (1 : Int32) p3 p4 v_parted v_traced v_trace v_kind v_number v_m) (fun r24 u25_parted u26_traced u27_trace => some (((0 : Int32) - r24), u25_parted, u26_traced, u27_trace)))
  else if p1 = (40 : Int32) then (j_b4 (g_Voices_sound r1 (2 : Int32) (p3 / (2 : Int32)) p4 v_parted v_traced v_trace v_kind v_number v_m) (fun r28 u29_parted u30_traced u31_trace => some (r28, u29_parted, u30_traced, u31_trace)))
  else if p1 = (50 : Int32) then (j_b4 (g_Voices_sound r1 (0 : Int32) p3 p4 v_parted v_traced v_trace v_kind v_number v_m) (fun r32 u33_parted u34_traced u35_trace => some ((r32 * (3 : Int32)), u33_parted, u34_traced, u35_trace)))
  else if p1 = (51 : Int32) then (j_b4 (g_Voices_sound r1 (2 : Int32) p3 p4 v_parted v_traced v_trace v_kind v_number v_m) (fun r36 u37_parted u38_traced u39_trace => some ((r36 ^^^ v_number), u37_parted, u38_traced, u39_trace)))
  else if p1 = (60 : Int32) then (j_b4 (g_Voices_sound r1 (1 : Int32) (p3 + (1 : Int32)) p4 v_parted v_traced v_trace v_kind v_number v_m) (fun r40 u41_parted u42_traced u43_trace => some (r40, u41_parted, u42_traced, u43_trace)))
  else if p1 = (70 : Int32) then (some ((9 : Int32), v_parted, v_traced, v_trace))
  else if p1 = (71 : Int32) then (j_b4 (g_Voices_sound r1 (1 : Int32) p3 p4 v_parted v_traced v_trace v_kind v_number v_m) (fun r44 u45_parted u46_traced u47_trace => some ((r44 + v_m), u45_parted, u46_traced, u47_trace)))
  else (some ((0 : Int32), v_parted, v_traced, v_trace)))

def sr_Voices : Nat → (Int32 → Int32 → Int32 → Int32 → Int32 → Int32 → (Nat → Int32) → Int32 → Int32 → Int32 → (Option (Int32 × Int32 × Int32 × (Nat → Int32)))) × (Int32 → Int32 → Int32 → Int32 → Int32 → Int32 → (Nat → Int32) → Int32 → Int32 → Int32 → (Option (Int32 × Int32 × Int32 × (Nat → Int32))))
  | 0 => ((fun _ _ _ _ _ _ _ _ _ _ => none), (fun _ _ _ _ _ _ _ _ _ _ => none))
  | d + 1 => (so_Voices_sound ((sr_Voices d).1) ((sr_Voices d).2), so_Voices_run ((sr_Voices d).1) ((sr_Voices d).2))

def s_Voices_sound (d : Nat) : Int32 → Int32 → Int32 → Int32 → Int32 → Int32 → (Nat → Int32) → Int32 → Int32 → Int32 → (Option (Int32 × Int32 × Int32 × (Nat → Int32))) := (sr_Voices d).1

def s_Voices_run (d : Nat) : Int32 → Int32 → Int32 → Int32 → Int32 → Int32 → (Nat → Int32) → Int32 → Int32 → Int32 → (Option (Int32 × Int32 × Int32 × (Nat → Int32))) := (sr_Voices d).2

theorem s_Voices_sound_succ (d : Nat) : s_Voices_sound (d + 1) = so_Voices_sound (s_Voices_sound d) (s_Voices_run d) := rfl

theorem s_Voices_run_succ (d : Nat) : s_Voices_run (d + 1) = so_Voices_run (s_Voices_sound d) (s_Voices_run d) := rfl

def s_Voices_speak (p1 : Int32) (p2 : Int32) (p3 : Int32) (p4 : Int32) (p5 : Int32) (v_parted : Int32) (v_traced : Int32) (v_trace : Nat → Int32) (v_kind : Int32) (v_number : Int32) (v_m : Int32) : Option (Int32 × Int32 × Int32 × (Nat → Int32) × Int32 × Int32 × Int32) :=
  j_b4 (s_Voices_sound 40 p1 p4 p5 (0 : Int32) (0 : Int32) (0 : Int32) v_trace p1 p2 p3) (fun r1 u2_parted u3_traced u4_trace => some (r1, u2_parted, u3_traced, u4_trace, p1, p2, p3))

def s_Voices_bodyInTrace (p1 : Int32) (v_traced : Int32) (v_trace : Nat → Int32) : Option (Int32) :=
  if p1 < 0 then (some ((0 : Int32)))
  else (if v_traced ≤ p1 then (some ((0 : Int32)))
  else (if (30 : Int32) ≤ p1 then (some ((0 : Int32)))
  else (j_chk p1 30 (some ((v_trace p1.toNatClampNeg))))))

def s_X_error_c23 (x1 : Int32) (v_errors : Nat → Int32) : Option (Int32 × (Nat → Int32)) :=
  some (((-1000000000 : Int32) - x1), v_errors)

def s_X_error (p1 : Int32) (v_errors : Nat → Int32) : Option (Int32 × (Nat → Int32)) :=
  if p1 < 0 then (s_X_error_c23 p1 v_errors)
  else (if (7 : Int32) ≤ p1 then (s_X_error_c23 p1 v_errors)
  else (j_chk p1 7 (j_chk p1 7 (s_X_error_c23 p1 (upd v_errors p1.toNatClampNeg ((v_errors p1.toNatClampNeg) + (1 : Int32)))))))

def s_X_wall_c16 (v_house_walls : Int64) (v_errors : Nat → Int32) : Option (Int32 × Int64 × (Nat → Int32)) :=
  j_b2 (s_X_error (1 : Int32) v_errors) (fun r2 u3_errors => some (r2, v_house_walls, u3_errors))

def s_X_wall_c47 (x1 : Int32) (x2 : Int32) (v_house_walls : Int64) (v_errors : Nat → Int32) : Option (Int32 × Int64 × (Nat → Int32)) :=
  j_b1 (s_House_wallAt x1 v_house_walls) (fun r4 => j_b1 (s_House_setWall x1 x2 v_house_walls) (fun u5_walls => some (r4, u5_walls, v_errors)))

def s_X_wall (p1 : Int32) (p2 : Int32) (v_house_things_cell : Nat → Int32) (v_house_things_count : Int32) (v_house_walls : Int64) (v_errors : Nat → Int32) : Option (Int32 × Int64 × (Nat → Int32)) :=
  j_b1 (s_Grid_isCell p1) (fun r1 => if r1 = 0 then (s_X_wall_c16 v_house_walls v_errors)
  else (if p2 < 0 then (s_X_wall_c16 v_house_walls v_errors)
  else (if p2 ≤ (1 : Int32) then (if p2 = (1 : Int32) then (j_b1 (s_Things_inCell p1 v_house_things_cell v_house_things_count) (fun r6 => if r6 < 0 then (s_X_wall_c47 p1 p2 v_house_walls v_errors)
  else (j_b2 (s_X_error (3 : Int32) v_errors) (fun r7 u8_errors => some (r7, v_house_walls, u8_errors)))))
  else (s_X_wall_c47 p1 p2 v_house_walls v_errors))
  else (s_X_wall_c16 v_house_walls v_errors))))

def s_X_cellIs_c16 (v_errors : Nat → Int32) : Option (Int32 × (Nat → Int32)) :=
  j_b2 (s_X_error (1 : Int32) v_errors) (fun r2 u3_errors => some (r2, u3_errors))

def s_X_cellIs (p1 : Int32) (p2 : Int32) (v_house_things_cell : Nat → Int32) (v_house_things_count : Int32) (v_house_walls : Int64) (v_errors : Nat → Int32) : Option (Int32 × (Nat → Int32)) :=
  j_b1 (s_Grid_isCell p1) (fun r1 => if r1 = 0 then (s_X_cellIs_c16 v_errors)
  else (if p2 < 0 then (s_X_cellIs_c16 v_errors)
  else (if p2 ≤ (1 : Int32) then (if p2 = 0 then (j_b1 (s_House_wallAt p1 v_house_walls) (fun r5 => some (r5, v_errors)))
  else (j_b1 (s_Things_inCell p1 v_house_things_cell v_house_things_count) (fun r4 => some (r4, v_errors))))
  else (s_X_cellIs_c16 v_errors))))

def s_X_thing_c14 (v_house_things_kind : Nat → Int32) (v_house_things_m : Nat → Int32) (v_house_things_cell : Nat → Int32) (v_house_things_broken : Nat → Int32) (v_house_things_fell : Nat → Int32) (v_house_things_count : Int32) (v_house_things_taken : Int64) (v_errors : Nat → Int32) : Option (Int32 × (Nat → Int32) × (Nat → Int32) × (Nat → Int32) × (Nat → Int32) × (Nat → Int32) × Int32 × Int64 × (Nat → Int32)) :=
  j_b2 (s_X_error (1 : Int32) v_errors) (fun r2 u3_errors => some (r2, v_house_things_kind, v_house_things_m, v_house_things_cell, v_house_things_broken, v_house_things_fell, v_house_things_count, v_house_things_taken, u3_errors))

def s_X_thing_c65 (v_house_things_kind : Nat → Int32) (v_house_things_m : Nat → Int32) (v_house_things_cell : Nat → Int32) (v_house_things_broken : Nat → Int32) (v_house_things_fell : Nat → Int32) (v_house_things_count : Int32) (v_house_things_taken : Int64) (v_errors : Nat → Int32) : Option (Int32 × (Nat → Int32) × (Nat → Int32) × (Nat → Int32) × (Nat → Int32) × (Nat → Int32) × Int32 × Int64 × (Nat → Int32)) :=
  j_b2 (s_X_error (3 : Int32) v_errors) (fun r7 u8_errors => some (r7, v_house_things_kind, v_house_things_m, v_house_things_cell, v_house_things_broken, v_house_things_fell, v_house_things_count, v_house_things_taken, u8_errors))

def s_X_thing (p1 : Int32) (p2 : Int32) (v_house_things_kind : Nat → Int32) (v_house_things_m : Nat → Int32) (v_house_things_cell : Nat → Int32) (v_house_things_broken : Nat → Int32) (v_house_things_fell : Nat → Int32) (v_house_things_count : Int32) (v_house_things_taken : Int64) (v_house_walls : Int64) (v_errors : Nat → Int32) : Option (Int32 × (Nat → Int32) × (Nat → Int32) × (Nat → Int32) × (Nat → Int32) × (Nat → Int32) × Int32 × Int64 × (Nat → Int32)) :=
  j_b1 (s_Kinds_isKindAndNumber p1) (fun r1 => if r1 = 0 then (s_X_thing_c14 v_house_things_kind v_house_things_m v_house_things_cell v_house_things_broken v_house_things_fell v_house_things_count v_house_things_taken v_errors)
  else (j_b1 (s_Grid_isCell p2) (fun r4 => if r4 = 0 then (s_X_thing_c14 v_house_things_kind v_house_things_m v_house_things_cell v_house_things_broken v_house_things_fell v_house_things_count v_house_things_taken v_errors)
  else (j_b1 (s_Things_isFull v_house_things_count) (fun r5 => if r5 = 0 then (j_b1 (s_House_wallAt p2 v_house_walls) (fun r6 => if r6 = (1 : Int32) then (s_X_thing_c65 v_house_things_kind v_house_things_m v_house_things_cell v_house_things_broken v_house_things_fell v_house_things_count v_house_things_taken v_errors)
  else (j_b1 (s_Things_inCell p2 v_house_things_cell v_house_things_count) (fun r9 => if r9 < 0 then (j_b8 (s_Things_add p1 p2 v_house_things_kind v_house_things_m v_house_things_cell v_house_things_broken v_house_things_fell v_house_things_count v_house_things_taken) (fun r10 u11_kind u12_m u13_cell u14_broken u15_fell u16_count u17_taken => some (r10, u11_kind, u12_m, u13_cell, u14_broken, u15_fell, u16_count, u17_taken, v_errors)))
  else (s_X_thing_c65 v_house_things_kind v_house_things_m v_house_things_cell v_house_things_broken v_house_things_fell v_house_things_count v_house_things_taken v_errors)))))
  else (j_b2 (s_X_error (4 : Int32) v_errors) (fun r18 u19_errors => some (r18, v_house_things_kind, v_house_things_m, v_house_things_cell, v_house_things_broken, v_house_things_fell, v_house_things_count, v_house_things_taken, u19_errors))))))))

def s_X_thingIs_c23 (v_errors : Nat → Int32) : Option (Int32 × (Nat → Int32)) :=
  j_b2 (s_X_error (1 : Int32) v_errors) (fun r2 u3_errors => some (r2, u3_errors))

def s_X_thingIs (p1 : Int32) (p2 : Int32) (v_house_things_kind : Nat → Int32) (v_house_things_m : Nat → Int32) (v_house_things_cell : Nat → Int32) (v_house_things_broken : Nat → Int32) (v_house_things_fell : Nat → Int32) (v_house_things_count : Int32) (v_errors : Nat → Int32) : Option (Int32 × (Nat → Int32)) :=
  j_b1 (s_Things_has p1 v_house_things_count) (fun r1 => if r1 = 0 then (s_X_thingIs_c23 v_errors)
  else (if p2 < 0 then (s_X_thingIs_c23 v_errors)
  else (if p2 ≤ (4 : Int32) then (j_b1 (s_Things_ofThing p1 p2 v_house_things_kind v_house_things_m v_house_things_cell v_house_things_broken v_house_things_fell v_house_things_count) (fun r4 => some (r4, v_errors)))
  else (s_X_thingIs_c23 v_errors))))

def s_X_become_c21 (v_house_things_kind : Nat → Int32) (v_house_things_m : Nat → Int32) (v_errors : Nat → Int32) : Option (Int32 × (Nat → Int32) × (Nat → Int32) × (Nat → Int32)) :=
  j_b2 (s_X_error (1 : Int32) v_errors) (fun r2 u3_errors => some (r2, v_house_things_kind, v_house_things_m, u3_errors))

def s_X_become (p1 : Int32) (p2 : Int32) (v_house_things_kind : Nat → Int32) (v_house_things_m : Nat → Int32) (v_house_things_count : Int32) (v_errors : Nat → Int32) : Option (Int32 × (Nat → Int32) × (Nat → Int32) × (Nat → Int32)) :=
  j_b1 (s_Things_has p1 v_house_things_count) (fun r1 => if r1 = 0 then (s_X_become_c21 v_house_things_kind v_house_things_m v_errors)
  else (j_b1 (s_Kinds_isKindAndNumber p2) (fun r4 => if r4 = 0 then (s_X_become_c21 v_house_things_kind v_house_things_m v_errors)
  else (j_chk p1 6 (j_b2 (s_Things_setKind p1 p2 v_house_things_kind v_house_things_m v_house_things_count) (fun u5_kind u6_m => some ((v_house_things_kind p1.toNatClampNeg), u5_kind, u6_m, v_errors)))))))

def s_X_as_c21 (v_errors : Nat → Int32) : Option (Int32 × (Nat → Int32)) :=
  j_b2 (s_X_error (1 : Int32) v_errors) (fun r2 u3_errors => some (r2, u3_errors))

def s_X_as (p1 : Int32) (p2 : Int32) (v_house_things_kind : Nat → Int32) (v_house_things_m : Nat → Int32) (v_house_things_count : Int32) (v_errors : Nat → Int32) : Option (Int32 × (Nat → Int32)) :=
  j_b1 (s_Things_has p1 v_house_things_count) (fun r1 => if r1 = 0 then (s_X_as_c21 v_errors)
  else (j_b1 (s_Kinds_isKind p2) (fun r4 => if r4 = 0 then (s_X_as_c21 v_errors)
  else (j_chk p1 6 (j_b1 (s_Kinds_isUnder (v_house_things_kind p1.toNatClampNeg) p2) (fun r5 => if r5 = 0 then (j_b2 (s_X_error (5 : Int32) v_errors) (fun r6 u7_errors => some (r6, u7_errors)))
  else (j_chk p1 6 (some ((v_house_things_m p1.toNatClampNeg), v_errors)))))))))

def s_X_carry_c21 (v_house_things_cell : Nat → Int32) (v_house_things_taken : Int64) (v_errors : Nat → Int32) : Option (Int32 × (Nat → Int32) × Int64 × (Nat → Int32)) :=
  j_b2 (s_X_error (1 : Int32) v_errors) (fun r2 u3_errors => some (r2, v_house_things_cell, v_house_things_taken, u3_errors))

def s_X_carry_c60 (v_house_things_cell : Nat → Int32) (v_house_things_taken : Int64) (v_errors : Nat → Int32) : Option (Int32 × (Nat → Int32) × Int64 × (Nat → Int32)) :=
  j_b2 (s_X_error (3 : Int32) v_errors) (fun r7 u8_errors => some (r7, v_house_things_cell, v_house_things_taken, u8_errors))

def s_X_carry_c66 (x1 : Int32) (x2 : Int32) (v_house_things_cell : Nat → Int32) (v_house_things_count : Int32) (v_house_things_taken : Int64) (v_errors : Nat → Int32) : Option (Int32 × (Nat → Int32) × Int64 × (Nat → Int32)) :=
  j_chk x1 6 (j_b2 (s_Things_place x1 x2 v_house_things_cell v_house_things_count v_house_things_taken) (fun u9_cell u10_taken => some ((v_house_things_cell x1.toNatClampNeg), u9_cell, u10_taken, v_errors)))

def s_X_carry (p1 : Int32) (p2 : Int32) (v_house_things_cell : Nat → Int32) (v_house_things_count : Int32) (v_house_things_taken : Int64) (v_house_walls : Int64) (v_errors : Nat → Int32) : Option (Int32 × (Nat → Int32) × Int64 × (Nat → Int32)) :=
  j_b1 (s_Things_has p1 v_house_things_count) (fun r1 => if r1 = 0 then (s_X_carry_c21 v_house_things_cell v_house_things_taken v_errors)
  else (j_b1 (s_Grid_isCell p2) (fun r4 => if r4 = 0 then (s_X_carry_c21 v_house_things_cell v_house_things_taken v_errors)
  else (j_b1 (s_Things_inCell p2 v_house_things_cell v_house_things_count) (fun r5 => j_b1 (s_House_wallAt p2 v_house_walls) (fun r6 => if r6 = (1 : Int32) then (s_X_carry_c60 v_house_things_cell v_house_things_taken v_errors)
  else (if r5 < 0 then (s_X_carry_c66 p1 p2 v_house_things_cell v_house_things_count v_house_things_taken v_errors)
  else (if r5 = p1 then (s_X_carry_c66 p1 p2 v_house_things_cell v_house_things_count v_house_things_taken v_errors)
  else (s_X_carry_c60 v_house_things_cell v_house_things_taken v_errors)))))))))

def s_X_clock_c11 (v_house_hour : Int32) (v_errors : Nat → Int32) : Option (Int32 × Int32 × (Nat → Int32)) :=
  j_b2 (s_X_error (1 : Int32) v_errors) (fun r1 u2_errors => some (r1, v_house_hour, u2_errors))

def s_X_clock (p1 : Int32) (v_house_hour : Int32) (v_errors : Nat → Int32) : Option (Int32 × Int32 × (Nat → Int32)) :=
  if p1 < 0 then (s_X_clock_c11 v_house_hour v_errors)
  else (if p1 ≤ (9999 : Int32) then (some (v_house_hour, p1, v_errors))
  else (s_X_clock_c11 v_house_hour v_errors))

def s_X_feed_c11 (v_house_tape : Nat → Int32) (v_house_tapeLength : Int32) (v_errors : Nat → Int32) : Option (Int32 × (Nat → Int32) × Int32 × (Nat → Int32)) :=
  j_b2 (s_X_error (1 : Int32) v_errors) (fun r1 u2_errors => some (r1, v_house_tape, v_house_tapeLength, u2_errors))

def s_X_feed (p1 : Int64) (p3 : Int32) (v_house_tape : Nat → Int32) (v_house_tapeLength : Int32) (v_errors : Nat → Int32) : Option (Int32 × (Nat → Int32) × Int32 × (Nat → Int32)) :=
  if p3 < (1 : Int32) then (s_X_feed_c11 v_house_tape v_house_tapeLength v_errors)
  else (if p3 ≤ (8 : Int32) then (j_b1 (s_House_tapeHasRoom p3 v_house_tapeLength) (fun r3 => if r3 = 0 then (j_b2 (s_X_error (4 : Int32) v_errors) (fun r6 u7_errors => some (r6, v_house_tape, v_house_tapeLength, u7_errors)))
  else (j_b2 (s_House_addToTape p1 p3 v_house_tape v_house_tapeLength) (fun u4_tape u5_tapeLength => some (u5_tapeLength, u4_tape, u5_tapeLength, v_errors)))))
  else (s_X_feed_c11 v_house_tape v_house_tapeLength v_errors))

def s_X_isUse (p0 : Int32) : Option (Int32) :=
  if p0 = 0 then (some ((1 : Int32)))
  else (if p0 = (1 : Int32) then (some ((1 : Int32)))
  else (some ((0 : Int32))))

def s_X_text (p1 : Int32) (v_house_tape : Nat → Int32) (v_house_tapeLength : Int32) (v_house_pullLaw_steps : Nat → Int32) (v_house_pullLaw_stepCount : Int32) (v_house_breakLaw_steps : Nat → Int32) (v_house_breakLaw_stepCount : Int32) (v_reader_steps : Nat → Int32) (v_reader_stepCount : Int32) (v_reader_fault : Int32) (v_reader_bytes : Nat → Int32) (v_reader_length : Int32) (v_reader_at : Int32) (v_reader_use : Int32) (v_errors : Nat → Int32) : Option (Int32 × Int32 × (Nat → Int32) × Int32 × (Nat → Int32) × Int32 × (Nat → Int32) × Int32 × Int32 × (Nat → Int32) × Int32 × Int32 × Int32 × (Nat → Int32)) :=
  j_b1 (s_X_isUse p1) (fun r1 => if r1 = 0 then (j_b2 (s_X_error (1 : Int32) v_errors) (fun r13 u14_errors => some (r13, v_house_tapeLength, v_house_pullLaw_steps, v_house_pullLaw_stepCount, v_house_breakLaw_steps, v_house_breakLaw_stepCount, v_reader_steps, v_reader_stepCount, v_reader_fault, v_reader_bytes, v_reader_length, v_reader_at, v_reader_use, u14_errors)))
  else (j_b7 (s_TextReader_read v_house_tapeLength p1 v_reader_steps v_reader_stepCount v_reader_fault v_reader_bytes v_reader_length v_reader_at v_reader_use v_house_tape) (fun u2_steps u3_stepCount u4_fault u5_bytes u6_length u7_at u8_use => if u4_fault < 0 then (if p1 = 0 then (j_b2 (s_Law_learn u3_stepCount v_house_pullLaw_steps v_house_pullLaw_stepCount u2_steps) (fun u9_steps u10_stepCount => some ((1 : Int32), (0 : Int32), u9_steps, u10_stepCount, v_house_breakLaw_steps, v_house_breakLaw_stepCount, u2_steps, u3_stepCount, u4_fault, u5_bytes, u6_length, u7_at, u8_use, v_errors)))
  else (j_b2 (s_Law_learn u3_stepCount v_house_breakLaw_steps v_house_breakLaw_stepCount u2_steps) (fun u11_steps u12_stepCount => some ((1 : Int32), (0 : Int32), v_house_pullLaw_steps, v_house_pullLaw_stepCount, u11_steps, u12_stepCount, u2_steps, u3_stepCount, u4_fault, u5_bytes, u6_length, u7_at, u8_use, v_errors))))
  else (some (((-10 : Int32) - u4_fault), (0 : Int32), v_house_pullLaw_steps, v_house_pullLaw_stepCount, v_house_breakLaw_steps, v_house_breakLaw_stepCount, u2_steps, u3_stepCount, u4_fault, u5_bytes, u6_length, u7_at, u8_use, v_errors)))))

def s_X_untell_c32 (x1 : Int32) (v_house_pullLaw_stepCount : Int32) (v_house_breakLaw_stepCount : Int32) (v_errors : Nat → Int32) (k0 : Int32) : Option (Int32 × Int32 × Int32 × (Nat → Int32)) :=
  if x1 = 0 then (j_b1 (s_Law_forget v_house_pullLaw_stepCount) (fun u3_stepCount => some (k0, u3_stepCount, v_house_breakLaw_stepCount, v_errors)))
  else (j_b1 (s_Law_forget v_house_breakLaw_stepCount) (fun u4_stepCount => some (k0, v_house_pullLaw_stepCount, u4_stepCount, v_errors)))

def s_X_untell (p1 : Int32) (v_house_pullLaw_stepCount : Int32) (v_house_breakLaw_stepCount : Int32) (v_errors : Nat → Int32) : Option (Int32 × Int32 × Int32 × (Nat → Int32)) :=
  j_b1 (s_X_isUse p1) (fun r1 => if r1 = 0 then (j_b2 (s_X_error (1 : Int32) v_errors) (fun r6 u7_errors => some (r6, v_house_pullLaw_stepCount, v_house_breakLaw_stepCount, u7_errors)))
  else (if p1 = 0 then (j_b1 (s_Law_isTold v_house_pullLaw_stepCount) (fun r2 => if r2 = 0 then (s_X_untell_c32 p1 v_house_pullLaw_stepCount v_house_breakLaw_stepCount v_errors (0 : Int32))
  else (s_X_untell_c32 p1 v_house_pullLaw_stepCount v_house_breakLaw_stepCount v_errors (1 : Int32))))
  else (j_b1 (s_Law_isTold v_house_breakLaw_stepCount) (fun r5 => if r5 = 0 then (s_X_untell_c32 p1 v_house_pullLaw_stepCount v_house_breakLaw_stepCount v_errors (0 : Int32))
  else (s_X_untell_c32 p1 v_house_pullLaw_stepCount v_house_breakLaw_stepCount v_errors (1 : Int32))))))

def s_X_law (p1 : Int32) (p2 : Int32) (p3 : Int32) (p4 : Int32) (v_house_pullLaw_steps : Nat → Int32) (v_house_pullLaw_stack : Nat → Int32) (v_house_pullLaw_stepCount : Int32) (v_house_breakLaw_steps : Nat → Int32) (v_house_breakLaw_stack : Nat → Int32) (v_house_breakLaw_stepCount : Int32) (v_errors : Nat → Int32) : Option (Int32 × (Nat → Int32) × (Nat → Int32) × (Nat → Int32)) :=
  j_b1 (s_X_isUse p1) (fun r1 => if r1 = 0 then (j_b2 (s_X_error (1 : Int32) v_errors) (fun r6 u7_errors => some (r6, v_house_pullLaw_stack, v_house_breakLaw_stack, u7_errors)))
  else (if p1 = 0 then (j_b2 (s_House_pullBy p2 p3 p4 v_house_pullLaw_steps v_house_pullLaw_stack v_house_pullLaw_stepCount) (fun r4 u5_stack => some (r4, u5_stack, v_house_breakLaw_stack, v_errors)))
  else (j_b2 (s_House_breaksBy p2 p3 p4 v_house_breakLaw_steps v_house_breakLaw_stack v_house_breakLaw_stepCount) (fun r2 u3_stack => if r2 = 0 then (some ((0 : Int32), v_house_pullLaw_stack, u3_stack, v_errors))
  else (some ((1 : Int32), v_house_pullLaw_stack, u3_stack, v_errors))))))

def s_X_hours_c11 (v_house_things_cell : Nat → Int32) (v_house_things_broken : Nat → Int32) (v_house_things_fell : Nat → Int32) (v_house_things_taken : Int64) (v_house_hour : Int32) (v_house_pullLaw_stack : Nat → Int32) (v_house_breakLaw_stack : Nat → Int32) (v_errors : Nat → Int32) : Option (Int32 × (Nat → Int32) × (Nat → Int32) × (Nat → Int32) × Int64 × Int32 × (Nat → Int32) × (Nat → Int32) × (Nat → Int32)) :=
  j_b2 (s_X_error (1 : Int32) v_errors) (fun r1 u2_errors => some (r1, v_house_things_cell, v_house_things_broken, v_house_things_fell, v_house_things_taken, v_house_hour, v_house_pullLaw_stack, v_house_breakLaw_stack, u2_errors))

def s_X_hours_c40 (x1 : Int32) (v_house_things_kind : Nat → Int32) (v_house_things_m : Nat → Int32) (v_house_things_count : Int32) (v_house_walls : Int64) (v_house_pullLaw_steps : Nat → Int32) (v_house_pullLaw_stepCount : Int32) (v_house_breakLaw_steps : Nat → Int32) (v_house_breakLaw_stepCount : Int32) (v_errors : Nat → Int32) : Nat → Int32 → (Nat → Int32) → (Nat → Int32) → (Nat → Int32) → Int64 → Int32 → (Nat → Int32) → (Nat → Int32) → (Option (Int32 × (Nat → Int32) × (Nat → Int32) × (Nat → Int32) × Int64 × Int32 × (Nat → Int32) × (Nat → Int32) × (Nat → Int32)))
  | 0, _, _, _, _, _, _, _, _ => none
  | n + 1, x2, v_house_things_cell, v_house_things_broken, v_house_things_fell, v_house_things_taken, v_house_hour, v_house_pullLaw_stack, v_house_breakLaw_stack =>
  if x1 ≤ x2 then (j_b1 (s_Things_brokenCount v_house_things_broken v_house_things_count) (fun r3 => some (r3, v_house_things_cell, v_house_things_broken, v_house_things_fell, v_house_things_taken, v_house_hour, v_house_pullLaw_stack, v_house_breakLaw_stack, v_errors)))
  else (j_b2 (s_House_pullAt v_house_hour v_house_things_count v_house_pullLaw_steps v_house_pullLaw_stack v_house_pullLaw_stepCount) (fun r4 u5_stack => j_b6 (s_House_passHour r4 v_house_things_kind v_house_things_m v_house_things_cell v_house_things_broken v_house_things_fell v_house_things_count v_house_things_taken v_house_walls v_house_hour v_house_breakLaw_steps v_house_breakLaw_stack v_house_breakLaw_stepCount) (fun u6_cell u7_broken u8_fell u9_taken u10_hour u11_stack => s_X_hours_c40 x1 v_house_things_kind v_house_things_m v_house_things_count v_house_walls v_house_pullLaw_steps v_house_pullLaw_stepCount v_house_breakLaw_steps v_house_breakLaw_stepCount v_errors n (x2 + (1 : Int32)) u6_cell u7_broken u8_fell u9_taken u10_hour u5_stack u11_stack)))

def s_X_hours (p1 : Int32) (v_house_things_kind : Nat → Int32) (v_house_things_m : Nat → Int32) (v_house_things_cell : Nat → Int32) (v_house_things_broken : Nat → Int32) (v_house_things_fell : Nat → Int32) (v_house_things_count : Int32) (v_house_things_taken : Int64) (v_house_walls : Int64) (v_house_hour : Int32) (v_house_pullLaw_steps : Nat → Int32) (v_house_pullLaw_stack : Nat → Int32) (v_house_pullLaw_stepCount : Int32) (v_house_breakLaw_steps : Nat → Int32) (v_house_breakLaw_stack : Nat → Int32) (v_house_breakLaw_stepCount : Int32) (v_errors : Nat → Int32) : Option (Int32 × (Nat → Int32) × (Nat → Int32) × (Nat → Int32) × Int64 × Int32 × (Nat → Int32) × (Nat → Int32) × (Nat → Int32)) :=
  if p1 < (1 : Int32) then (s_X_hours_c11 v_house_things_cell v_house_things_broken v_house_things_fell v_house_things_taken v_house_hour v_house_pullLaw_stack v_house_breakLaw_stack v_errors)
  else (if p1 ≤ (100 : Int32) then (if (v_house_hour + p1) ≤ (9999 : Int32) then (s_X_hours_c40 p1 v_house_things_kind v_house_things_m v_house_things_count v_house_walls v_house_pullLaw_steps v_house_pullLaw_stepCount v_house_breakLaw_steps v_house_breakLaw_stepCount v_errors 400 (0 : Int32) v_house_things_cell v_house_things_broken v_house_things_fell v_house_things_taken v_house_hour v_house_pullLaw_stack v_house_breakLaw_stack)
  else (j_b2 (s_X_error (3 : Int32) v_errors) (fun r12 u13_errors => some (r12, v_house_things_cell, v_house_things_broken, v_house_things_fell, v_house_things_taken, v_house_hour, v_house_pullLaw_stack, v_house_breakLaw_stack, u13_errors))))
  else (s_X_hours_c11 v_house_things_cell v_house_things_broken v_house_things_fell v_house_things_taken v_house_hour v_house_pullLaw_stack v_house_breakLaw_stack v_errors))

def s_X_shakes_c11 (v_house_things_cell : Nat → Int32) (v_house_things_broken : Nat → Int32) (v_house_things_fell : Nat → Int32) (v_house_things_taken : Int64) (v_house_hour : Int32) (v_house_z : Int32) (v_house_breakLaw_stack : Nat → Int32) (v_errors : Nat → Int32) : Option (Int32 × (Nat → Int32) × (Nat → Int32) × (Nat → Int32) × Int64 × Int32 × Int32 × (Nat → Int32) × (Nat → Int32)) :=
  j_b2 (s_X_error (1 : Int32) v_errors) (fun r1 u2_errors => some (r1, v_house_things_cell, v_house_things_broken, v_house_things_fell, v_house_things_taken, v_house_hour, v_house_z, v_house_breakLaw_stack, u2_errors))

def s_X_shakes_c40 (x1 : Int32) (v_house_things_kind : Nat → Int32) (v_house_things_m : Nat → Int32) (v_house_things_count : Int32) (v_house_walls : Int64) (v_house_breakLaw_steps : Nat → Int32) (v_house_breakLaw_stepCount : Int32) (v_errors : Nat → Int32) : Nat → Int32 → (Nat → Int32) → (Nat → Int32) → (Nat → Int32) → Int64 → Int32 → Int32 → (Nat → Int32) → (Option (Int32 × (Nat → Int32) × (Nat → Int32) × (Nat → Int32) × Int64 × Int32 × Int32 × (Nat → Int32) × (Nat → Int32)))
  | 0, _, _, _, _, _, _, _, _ => none
  | n + 1, x2, v_house_things_cell, v_house_things_broken, v_house_things_fell, v_house_things_taken, v_house_hour, v_house_z, v_house_breakLaw_stack =>
  if x1 ≤ x2 then (j_b1 (s_Things_brokenCount v_house_things_broken v_house_things_count) (fun r3 => some (r3, v_house_things_cell, v_house_things_broken, v_house_things_fell, v_house_things_taken, v_house_hour, v_house_z, v_house_breakLaw_stack, v_errors)))
  else (j_b2 (s_House_draw v_house_z) (fun r4 u5_z => j_b6 (s_House_passHour (r4 &&& (3 : Int32)) v_house_things_kind v_house_things_m v_house_things_cell v_house_things_broken v_house_things_fell v_house_things_count v_house_things_taken v_house_walls v_house_hour v_house_breakLaw_steps v_house_breakLaw_stack v_house_breakLaw_stepCount) (fun u6_cell u7_broken u8_fell u9_taken u10_hour u11_stack => s_X_shakes_c40 x1 v_house_things_kind v_house_things_m v_house_things_count v_house_walls v_house_breakLaw_steps v_house_breakLaw_stepCount v_errors n (x2 + (1 : Int32)) u6_cell u7_broken u8_fell u9_taken u10_hour u5_z u11_stack)))

def s_X_shakes (p1 : Int32) (v_house_things_kind : Nat → Int32) (v_house_things_m : Nat → Int32) (v_house_things_cell : Nat → Int32) (v_house_things_broken : Nat → Int32) (v_house_things_fell : Nat → Int32) (v_house_things_count : Int32) (v_house_things_taken : Int64) (v_house_walls : Int64) (v_house_hour : Int32) (v_house_z : Int32) (v_house_breakLaw_steps : Nat → Int32) (v_house_breakLaw_stack : Nat → Int32) (v_house_breakLaw_stepCount : Int32) (v_errors : Nat → Int32) : Option (Int32 × (Nat → Int32) × (Nat → Int32) × (Nat → Int32) × Int64 × Int32 × Int32 × (Nat → Int32) × (Nat → Int32)) :=
  if p1 < (1 : Int32) then (s_X_shakes_c11 v_house_things_cell v_house_things_broken v_house_things_fell v_house_things_taken v_house_hour v_house_z v_house_breakLaw_stack v_errors)
  else (if p1 ≤ (40 : Int32) then (if (v_house_hour + p1) ≤ (9999 : Int32) then (s_X_shakes_c40 p1 v_house_things_kind v_house_things_m v_house_things_count v_house_walls v_house_breakLaw_steps v_house_breakLaw_stepCount v_errors 400 (0 : Int32) v_house_things_cell v_house_things_broken v_house_things_fell v_house_things_taken v_house_hour v_house_z v_house_breakLaw_stack)
  else (j_b2 (s_X_error (3 : Int32) v_errors) (fun r12 u13_errors => some (r12, v_house_things_cell, v_house_things_broken, v_house_things_fell, v_house_things_taken, v_house_hour, v_house_z, v_house_breakLaw_stack, u13_errors))))
  else (s_X_shakes_c11 v_house_things_cell v_house_things_broken v_house_things_fell v_house_things_taken v_house_hour v_house_z v_house_breakLaw_stack v_errors))

def s_X_seed (p1 : Int32) (v_house_z : Int32) : Option (Int32 × Int32) :=
  some (v_house_z, p1)

def s_X_pull_c11 (v_house_pullLaw_stack : Nat → Int32) (v_errors : Nat → Int32) : Option (Int32 × (Nat → Int32) × (Nat → Int32)) :=
  j_b2 (s_X_error (1 : Int32) v_errors) (fun r1 u2_errors => some (r1, v_house_pullLaw_stack, u2_errors))

def s_X_pull (p1 : Int32) (v_house_things_count : Int32) (v_house_pullLaw_steps : Nat → Int32) (v_house_pullLaw_stack : Nat → Int32) (v_house_pullLaw_stepCount : Int32) (v_errors : Nat → Int32) : Option (Int32 × (Nat → Int32) × (Nat → Int32)) :=
  if p1 < 0 then (s_X_pull_c11 v_house_pullLaw_stack v_errors)
  else (if p1 ≤ (9999 : Int32) then (j_b2 (s_House_pullAt p1 v_house_things_count v_house_pullLaw_steps v_house_pullLaw_stack v_house_pullLaw_stepCount) (fun r3 u4_stack => some (r3, u4_stack, v_errors)))
  else (s_X_pull_c11 v_house_pullLaw_stack v_errors))

def s_X_then_c24 (v_house_pullLaw_stack : Nat → Int32) (v_thought_things_kind : Nat → Int32) (v_thought_things_m : Nat → Int32) (v_thought_things_cell : Nat → Int32) (v_thought_things_broken : Nat → Int32) (v_thought_things_fell : Nat → Int32) (v_thought_things_count : Int32) (v_thought_things_taken : Int64) (v_thought_pulls : Nat → Int32) (v_errors : Nat → Int32) : Option (Int32 × (Nat → Int32) × (Nat → Int32) × (Nat → Int32) × (Nat → Int32) × (Nat → Int32) × (Nat → Int32) × Int32 × Int64 × (Nat → Int32) × (Nat → Int32)) :=
  j_b2 (s_X_error (1 : Int32) v_errors) (fun r2 u3_errors => some (r2, v_house_pullLaw_stack, v_thought_things_kind, v_thought_things_m, v_thought_things_cell, v_thought_things_broken, v_thought_things_fell, v_thought_things_count, v_thought_things_taken, v_thought_pulls, u3_errors))

def s_X_then (p1 : Int32) (p2 : Int32) (v_house_things_kind : Nat → Int32) (v_house_things_m : Nat → Int32) (v_house_things_cell : Nat → Int32) (v_house_things_broken : Nat → Int32) (v_house_things_fell : Nat → Int32) (v_house_things_count : Int32) (v_house_things_taken : Int64) (v_house_walls : Int64) (v_house_hour : Int32) (v_house_pullLaw_steps : Nat → Int32) (v_house_pullLaw_stack : Nat → Int32) (v_house_pullLaw_stepCount : Int32) (v_thought_things_kind : Nat → Int32) (v_thought_things_m : Nat → Int32) (v_thought_things_cell : Nat → Int32) (v_thought_things_broken : Nat → Int32) (v_thought_things_fell : Nat → Int32) (v_thought_things_count : Int32) (v_thought_things_taken : Int64) (v_thought_pulls : Nat → Int32) (v_errors : Nat → Int32) : Option (Int32 × (Nat → Int32) × (Nat → Int32) × (Nat → Int32) × (Nat → Int32) × (Nat → Int32) × (Nat → Int32) × Int32 × Int64 × (Nat → Int32) × (Nat → Int32)) :=
  j_b1 (s_Things_has p1 v_house_things_count) (fun r1 => if r1 = 0 then (s_X_then_c24 v_house_pullLaw_stack v_thought_things_kind v_thought_things_m v_thought_things_cell v_thought_things_broken v_thought_things_fell v_thought_things_count v_thought_things_taken v_thought_pulls v_errors)
  else (if p2 < 0 then (s_X_then_c24 v_house_pullLaw_stack v_thought_things_kind v_thought_things_m v_thought_things_cell v_thought_things_broken v_thought_things_fell v_thought_things_count v_thought_things_taken v_thought_pulls v_errors)
  else (if p2 ≤ (100 : Int32) then (j_b2 (s_Thought_foresee v_house_hour p2 v_thought_pulls v_house_things_count v_house_pullLaw_steps v_house_pullLaw_stack v_house_pullLaw_stepCount) (fun u4_pulls u5_stack => j_b8 (s_Thought_cellBehind p1 p2 v_thought_things_kind v_thought_things_m v_thought_things_cell v_thought_things_broken v_thought_things_fell v_thought_things_count v_thought_things_taken u4_pulls v_house_things_kind v_house_things_m v_house_things_cell v_house_things_broken v_house_things_fell v_house_things_count v_house_things_taken v_house_walls) (fun r6 u7_kind u8_m u9_cell u10_broken u11_fell u12_count u13_taken => some (r6, u5_stack, u7_kind, u8_m, u9_cell, u10_broken, u11_fell, u12_count, u13_taken, u4_pulls, v_errors))))
  else (s_X_then_c24 v_house_pullLaw_stack v_thought_things_kind v_thought_things_m v_thought_things_cell v_thought_things_broken v_thought_things_fell v_thought_things_count v_thought_things_taken v_thought_pulls v_errors))))

def s_X_when_c21 (v_house_pullLaw_stack : Nat → Int32) (v_thought_things_kind : Nat → Int32) (v_thought_things_m : Nat → Int32) (v_thought_things_cell : Nat → Int32) (v_thought_things_broken : Nat → Int32) (v_thought_things_fell : Nat → Int32) (v_thought_things_count : Int32) (v_thought_things_taken : Int64) (v_thought_pulls : Nat → Int32) (v_errors : Nat → Int32) : Option (Int32 × (Nat → Int32) × (Nat → Int32) × (Nat → Int32) × (Nat → Int32) × (Nat → Int32) × (Nat → Int32) × Int32 × Int64 × (Nat → Int32) × (Nat → Int32)) :=
  j_b2 (s_X_error (1 : Int32) v_errors) (fun r2 u3_errors => some (r2, v_house_pullLaw_stack, v_thought_things_kind, v_thought_things_m, v_thought_things_cell, v_thought_things_broken, v_thought_things_fell, v_thought_things_count, v_thought_things_taken, v_thought_pulls, u3_errors))

def s_X_when (p1 : Int32) (p2 : Int32) (v_house_things_kind : Nat → Int32) (v_house_things_m : Nat → Int32) (v_house_things_cell : Nat → Int32) (v_house_things_broken : Nat → Int32) (v_house_things_fell : Nat → Int32) (v_house_things_count : Int32) (v_house_things_taken : Int64) (v_house_walls : Int64) (v_house_hour : Int32) (v_house_pullLaw_steps : Nat → Int32) (v_house_pullLaw_stack : Nat → Int32) (v_house_pullLaw_stepCount : Int32) (v_thought_things_kind : Nat → Int32) (v_thought_things_m : Nat → Int32) (v_thought_things_cell : Nat → Int32) (v_thought_things_broken : Nat → Int32) (v_thought_things_fell : Nat → Int32) (v_thought_things_count : Int32) (v_thought_things_taken : Int64) (v_thought_pulls : Nat → Int32) (v_errors : Nat → Int32) : Option (Int32 × (Nat → Int32) × (Nat → Int32) × (Nat → Int32) × (Nat → Int32) × (Nat → Int32) × (Nat → Int32) × Int32 × Int64 × (Nat → Int32) × (Nat → Int32)) :=
  j_b1 (s_Things_has p1 v_house_things_count) (fun r1 => if r1 = 0 then (s_X_when_c21 v_house_pullLaw_stack v_thought_things_kind v_thought_things_m v_thought_things_cell v_thought_things_broken v_thought_things_fell v_thought_things_count v_thought_things_taken v_thought_pulls v_errors)
  else (j_b1 (s_Grid_isCell p2) (fun r4 => if r4 = 0 then (s_X_when_c21 v_house_pullLaw_stack v_thought_things_kind v_thought_things_m v_thought_things_cell v_thought_things_broken v_thought_things_fell v_thought_things_count v_thought_things_taken v_thought_pulls v_errors)
  else (j_b2 (s_Thought_foresee v_house_hour (100 : Int32) v_thought_pulls v_house_things_count v_house_pullLaw_steps v_house_pullLaw_stack v_house_pullLaw_stepCount) (fun u5_pulls u6_stack => j_b8 (s_Thought_hoursUntil p1 p2 (100 : Int32) v_thought_things_kind v_thought_things_m v_thought_things_cell v_thought_things_broken v_thought_things_fell v_thought_things_count v_thought_things_taken u5_pulls v_house_things_kind v_house_things_m v_house_things_cell v_house_things_broken v_house_things_fell v_house_things_count v_house_things_taken v_house_walls) (fun r7 u8_kind u9_m u10_cell u11_broken u12_fell u13_count u14_taken => if 0 ≤ r7 then (some (r7, u6_stack, u8_kind, u9_m, u10_cell, u11_broken, u12_fell, u13_count, u14_taken, u5_pulls, v_errors))
  else (j_b2 (s_X_error (2 : Int32) v_errors) (fun r15 u16_errors => some (r15, u6_stack, u8_kind, u9_m, u10_cell, u11_broken, u12_fell, u13_count, u14_taken, u5_pulls, u16_errors)))))))))

def s_X_farthest_c20 (v_house_pullLaw_stack : Nat → Int32) (v_thought_things_kind : Nat → Int32) (v_thought_things_m : Nat → Int32) (v_thought_things_cell : Nat → Int32) (v_thought_things_broken : Nat → Int32) (v_thought_things_fell : Nat → Int32) (v_thought_things_count : Int32) (v_thought_things_taken : Int64) (v_thought_pulls : Nat → Int32) (v_thought_farthest : Int32) (v_thought_farthestThing : Int32) (v_thought_farthestHour : Int32) (v_errors : Nat → Int32) : Option (Int32 × (Nat → Int32) × (Nat → Int32) × (Nat → Int32) × (Nat → Int32) × (Nat → Int32) × (Nat → Int32) × Int32 × Int64 × (Nat → Int32) × Int32 × Int32 × Int32 × (Nat → Int32)) :=
  j_b2 (s_X_error (1 : Int32) v_errors) (fun r1 u2_errors => some (r1, v_house_pullLaw_stack, v_thought_things_kind, v_thought_things_m, v_thought_things_cell, v_thought_things_broken, v_thought_things_fell, v_thought_things_count, v_thought_things_taken, v_thought_pulls, v_thought_farthest, v_thought_farthestThing, v_thought_farthestHour, u2_errors))

def s_X_farthest (p1 : Int32) (p2 : Int32) (v_house_things_kind : Nat → Int32) (v_house_things_m : Nat → Int32) (v_house_things_cell : Nat → Int32) (v_house_things_broken : Nat → Int32) (v_house_things_fell : Nat → Int32) (v_house_things_count : Int32) (v_house_things_taken : Int64) (v_house_walls : Int64) (v_house_hour : Int32) (v_house_pullLaw_steps : Nat → Int32) (v_house_pullLaw_stack : Nat → Int32) (v_house_pullLaw_stepCount : Int32) (v_thought_things_kind : Nat → Int32) (v_thought_things_m : Nat → Int32) (v_thought_things_cell : Nat → Int32) (v_thought_things_broken : Nat → Int32) (v_thought_things_fell : Nat → Int32) (v_thought_things_count : Int32) (v_thought_things_taken : Int64) (v_thought_pulls : Nat → Int32) (v_thought_farthest : Int32) (v_thought_farthestThing : Int32) (v_thought_farthestHour : Int32) (v_errors : Nat → Int32) : Option (Int32 × (Nat → Int32) × (Nat → Int32) × (Nat → Int32) × (Nat → Int32) × (Nat → Int32) × (Nat → Int32) × Int32 × Int64 × (Nat → Int32) × Int32 × Int32 × Int32 × (Nat → Int32)) :=
  if p1 < (1 : Int32) then (s_X_farthest_c20 v_house_pullLaw_stack v_thought_things_kind v_thought_things_m v_thought_things_cell v_thought_things_broken v_thought_things_fell v_thought_things_count v_thought_things_taken v_thought_pulls v_thought_farthest v_thought_farthestThing v_thought_farthestHour v_errors)
  else (if (60 : Int32) < p1 then (s_X_farthest_c20 v_house_pullLaw_stack v_thought_things_kind v_thought_things_m v_thought_things_cell v_thought_things_broken v_thought_things_fell v_thought_things_count v_thought_things_taken v_thought_pulls v_thought_farthest v_thought_farthestThing v_thought_farthestHour v_errors)
  else (if p2 < 0 then (s_X_farthest_c20 v_house_pullLaw_stack v_thought_things_kind v_thought_things_m v_thought_things_cell v_thought_things_broken v_thought_things_fell v_thought_things_count v_thought_things_taken v_thought_pulls v_thought_farthest v_thought_farthestThing v_thought_farthestHour v_errors)
  else (if p2 ≤ (2 : Int32) then (j_b2 (s_Thought_foresee v_house_hour p1 v_thought_pulls v_house_things_count v_house_pullLaw_steps v_house_pullLaw_stack v_house_pullLaw_stepCount) (fun u3_pulls u4_stack => j_b10 (s_Thought_fallFarthest p1 v_thought_things_kind v_thought_things_m v_thought_things_cell v_thought_things_broken v_thought_things_fell v_thought_things_count v_thought_things_taken u3_pulls v_thought_farthest v_thought_farthestThing v_thought_farthestHour v_house_things_kind v_house_things_m v_house_things_cell v_house_things_broken v_house_things_fell v_house_things_count v_house_things_taken v_house_walls) (fun u5_kind u6_m u7_cell u8_broken u9_fell u10_count u11_taken u12_farthest u13_farthestThing u14_farthestHour => if p2 = 0 then (some (u12_farthest, u4_stack, u5_kind, u6_m, u7_cell, u8_broken, u9_fell, u10_count, u11_taken, u3_pulls, u12_farthest, u13_farthestThing, u14_farthestHour, v_errors))
  else (if p2 = (1 : Int32) then (some (u13_farthestThing, u4_stack, u5_kind, u6_m, u7_cell, u8_broken, u9_fell, u10_count, u11_taken, u3_pulls, u12_farthest, u13_farthestThing, u14_farthestHour, v_errors))
  else (some (u14_farthestHour, u4_stack, u5_kind, u6_m, u7_cell, u8_broken, u9_fell, u10_count, u11_taken, u3_pulls, u12_farthest, u13_farthestThing, u14_farthestHour, v_errors))))))
  else (s_X_farthest_c20 v_house_pullLaw_stack v_thought_things_kind v_thought_things_m v_thought_things_cell v_thought_things_broken v_thought_things_fell v_thought_things_count v_thought_things_taken v_thought_pulls v_thought_farthest v_thought_farthestThing v_thought_farthestHour v_errors))))

def s_Int_bitCount (p0 : Int32) : Option (Int32) :=
  j_let ((((p0 - ((j_iushr p0 (1 : Int32)) &&& (1431655765 : Int32))) &&& (858993459 : Int32)) + ((j_iushr (p0 - ((j_iushr p0 (1 : Int32)) &&& (1431655765 : Int32))) (2 : Int32)) &&& (858993459 : Int32)))) (fun x0_23 => j_let ((((x0_23 + (j_iushr x0_23 (4 : Int32))) &&& (252645135 : Int32)) + (j_iushr ((x0_23 + (j_iushr x0_23 (4 : Int32))) &&& (252645135 : Int32)) (8 : Int32)))) (fun x0_40 => some (((x0_40 + (j_iushr x0_40 (16 : Int32))) &&& (63 : Int32)))))

def s_X_screws_c29 (v_house_pullLaw_stack : Nat → Int32) (v_thought_things_kind : Nat → Int32) (v_thought_things_m : Nat → Int32) (v_thought_things_cell : Nat → Int32) (v_thought_things_broken : Nat → Int32) (v_thought_things_fell : Nat → Int32) (v_thought_things_count : Int32) (v_thought_things_taken : Int64) (v_thought_pulls : Nat → Int32) (v_errors : Nat → Int32) : Option (Int32 × (Nat → Int32) × (Nat → Int32) × (Nat → Int32) × (Nat → Int32) × (Nat → Int32) × (Nat → Int32) × Int32 × Int64 × (Nat → Int32) × (Nat → Int32)) :=
  j_b2 (s_X_error (1 : Int32) v_errors) (fun r1 u2_errors => some (r1, v_house_pullLaw_stack, v_thought_things_kind, v_thought_things_m, v_thought_things_cell, v_thought_things_broken, v_thought_things_fell, v_thought_things_count, v_thought_things_taken, v_thought_pulls, u2_errors))

def s_X_screws_c134 (k_87 : Int32 → (Nat → Int32) → (Nat → Int32) → (Nat → Int32) → (Nat → Int32) → (Nat → Int32) → Int32 → Int64 → (Option (Int32 × (Nat → Int32) × (Nat → Int32) × (Nat → Int32) × (Nat → Int32) × (Nat → Int32) × (Nat → Int32) × Int32 × Int64 × (Nat → Int32) × (Nat → Int32)))) (x7 : Int32) (v_thought_things_kind : Nat → Int32) (v_thought_things_m : Nat → Int32) (v_thought_things_cell : Nat → Int32) (v_thought_things_broken : Nat → Int32) (v_thought_things_fell : Nat → Int32) (v_thought_things_count : Int32) (v_thought_things_taken : Int64) : Option (Int32 × (Nat → Int32) × (Nat → Int32) × (Nat → Int32) × (Nat → Int32) × (Nat → Int32) × (Nat → Int32) × Int32 × Int64 × (Nat → Int32) × (Nat → Int32)) :=
  k_87 (x7 + (1 : Int32)) v_thought_things_kind v_thought_things_m v_thought_things_cell v_thought_things_broken v_thought_things_fell v_thought_things_count v_thought_things_taken

def s_X_screws_c87 (k_77 : Int32 → (Nat → Int32) → (Nat → Int32) → (Nat → Int32) → (Nat → Int32) → (Nat → Int32) → Int32 → Int64 → (Option (Int32 × (Nat → Int32) × (Nat → Int32) × (Nat → Int32) × (Nat → Int32) × (Nat → Int32) × (Nat → Int32) × Int32 × Int64 × (Nat → Int32) × (Nat → Int32)))) (x1 : Int32) (x2 : Int32) (x3 : Int32) (x5 : Int32) (x6 : Int32) (v_house_things_kind : Nat → Int32) (v_house_things_m : Nat → Int32) (v_house_things_cell : Nat → Int32) (v_house_things_broken : Nat → Int32) (v_house_things_fell : Nat → Int32) (v_house_things_count : Int32) (v_house_things_taken : Int64) (v_house_walls : Int64) (v_house_pullLaw_stack : Nat → Int32) (v_thought_pulls : Nat → Int32) (v_errors : Nat → Int32) : Nat → Int32 → (Nat → Int32) → (Nat → Int32) → (Nat → Int32) → (Nat → Int32) → (Nat → Int32) → Int32 → Int64 → (Option (Int32 × (Nat → Int32) × (Nat → Int32) × (Nat → Int32) × (Nat → Int32) × (Nat → Int32) × (Nat → Int32) × Int32 × Int64 × (Nat → Int32) × (Nat → Int32)))
  | 0, _, _, _, _, _, _, _, _ => none
  | n + 1, x7, v_thought_things_kind, v_thought_things_m, v_thought_things_cell, v_thought_things_broken, v_thought_things_fell, v_thought_things_count, v_thought_things_taken =>
  if x5 ≤ x7 then (k_77 (x6 + (1 : Int32)) v_thought_things_kind v_thought_things_m v_thought_things_cell v_thought_things_broken v_thought_things_fell v_thought_things_count v_thought_things_taken)
  else (j_b1 (s_Int_bitCount x7) (fun r5 => if r5 = x6 then (j_b8 (s_Thought_staysWithin x1 x2 x7 v_thought_things_kind v_thought_things_m v_thought_things_cell v_thought_things_broken v_thought_things_fell v_thought_things_count v_thought_things_taken v_thought_pulls v_house_things_kind v_house_things_m v_house_things_cell v_house_things_broken v_house_things_fell v_house_things_count v_house_things_taken v_house_walls) (fun r6 u7_kind u8_m u9_cell u10_broken u11_fell u12_count u13_taken => if r6 = 0 then (s_X_screws_c134 (s_X_screws_c87 k_77 x1 x2 x3 x5 x6 v_house_things_kind v_house_things_m v_house_things_cell v_house_things_broken v_house_things_fell v_house_things_count v_house_things_taken v_house_walls v_house_pullLaw_stack v_thought_pulls v_errors n) x7 u7_kind u8_m u9_cell u10_broken u11_fell u12_count u13_taken)
  else (if x3 = 0 then (some (x6, v_house_pullLaw_stack, u7_kind, u8_m, u9_cell, u10_broken, u11_fell, u12_count, u13_taken, v_thought_pulls, v_errors))
  else (some (x7, v_house_pullLaw_stack, u7_kind, u8_m, u9_cell, u10_broken, u11_fell, u12_count, u13_taken, v_thought_pulls, v_errors)))))
  else (s_X_screws_c134 (s_X_screws_c87 k_77 x1 x2 x3 x5 x6 v_house_things_kind v_house_things_m v_house_things_cell v_house_things_broken v_house_things_fell v_house_things_count v_house_things_taken v_house_walls v_house_pullLaw_stack v_thought_pulls v_errors n) x7 v_thought_things_kind v_thought_things_m v_thought_things_cell v_thought_things_broken v_thought_things_fell v_thought_things_count v_thought_things_taken)))

def s_X_screws_c77 (x1 : Int32) (x2 : Int32) (x3 : Int32) (x4 : Int32) (x5 : Int32) (v_house_things_kind : Nat → Int32) (v_house_things_m : Nat → Int32) (v_house_things_cell : Nat → Int32) (v_house_things_broken : Nat → Int32) (v_house_things_fell : Nat → Int32) (v_house_things_count : Int32) (v_house_things_taken : Int64) (v_house_walls : Int64) (v_house_pullLaw_stack : Nat → Int32) (v_thought_pulls : Nat → Int32) (v_errors : Nat → Int32) : Nat → Int32 → (Nat → Int32) → (Nat → Int32) → (Nat → Int32) → (Nat → Int32) → (Nat → Int32) → Int32 → Int64 → (Option (Int32 × (Nat → Int32) × (Nat → Int32) × (Nat → Int32) × (Nat → Int32) × (Nat → Int32) × (Nat → Int32) × Int32 × Int64 × (Nat → Int32) × (Nat → Int32)))
  | 0, _, _, _, _, _, _, _, _ => none
  | n + 1, x6, v_thought_things_kind, v_thought_things_m, v_thought_things_cell, v_thought_things_broken, v_thought_things_fell, v_thought_things_count, v_thought_things_taken =>
  if x4 ≤ x6 then (if x3 = 0 then (some (x4, v_house_pullLaw_stack, v_thought_things_kind, v_thought_things_m, v_thought_things_cell, v_thought_things_broken, v_thought_things_fell, v_thought_things_count, v_thought_things_taken, v_thought_pulls, v_errors))
  else (some (x5, v_house_pullLaw_stack, v_thought_things_kind, v_thought_things_m, v_thought_things_cell, v_thought_things_broken, v_thought_things_fell, v_thought_things_count, v_thought_things_taken, v_thought_pulls, v_errors)))
  else (s_X_screws_c87 (s_X_screws_c77 x1 x2 x3 x4 x5 v_house_things_kind v_house_things_m v_house_things_cell v_house_things_broken v_house_things_fell v_house_things_count v_house_things_taken v_house_walls v_house_pullLaw_stack v_thought_pulls v_errors n) x1 x2 x3 x5 x6 v_house_things_kind v_house_things_m v_house_things_cell v_house_things_broken v_house_things_fell v_house_things_count v_house_things_taken v_house_walls v_house_pullLaw_stack v_thought_pulls v_errors 400 (0 : Int32) v_thought_things_kind v_thought_things_m v_thought_things_cell v_thought_things_broken v_thought_things_fell v_thought_things_count v_thought_things_taken)

def s_X_screws (p1 : Int32) (p2 : Int32) (p3 : Int32) (v_house_things_kind : Nat → Int32) (v_house_things_m : Nat → Int32) (v_house_things_cell : Nat → Int32) (v_house_things_broken : Nat → Int32) (v_house_things_fell : Nat → Int32) (v_house_things_count : Int32) (v_house_things_taken : Int64) (v_house_walls : Int64) (v_house_hour : Int32) (v_house_pullLaw_steps : Nat → Int32) (v_house_pullLaw_stack : Nat → Int32) (v_house_pullLaw_stepCount : Int32) (v_thought_things_kind : Nat → Int32) (v_thought_things_m : Nat → Int32) (v_thought_things_cell : Nat → Int32) (v_thought_things_broken : Nat → Int32) (v_thought_things_fell : Nat → Int32) (v_thought_things_count : Int32) (v_thought_things_taken : Int64) (v_thought_pulls : Nat → Int32) (v_errors : Nat → Int32) : Option (Int32 × (Nat → Int32) × (Nat → Int32) × (Nat → Int32) × (Nat → Int32) × (Nat → Int32) × (Nat → Int32) × Int32 × Int64 × (Nat → Int32) × (Nat → Int32)) :=
  if p1 < (1 : Int32) then (s_X_screws_c29 v_house_pullLaw_stack v_thought_things_kind v_thought_things_m v_thought_things_cell v_thought_things_broken v_thought_things_fell v_thought_things_count v_thought_things_taken v_thought_pulls v_errors)
  else (if (60 : Int32) < p1 then (s_X_screws_c29 v_house_pullLaw_stack v_thought_things_kind v_thought_things_m v_thought_things_cell v_thought_things_broken v_thought_things_fell v_thought_things_count v_thought_things_taken v_thought_pulls v_errors)
  else (if p2 < 0 then (s_X_screws_c29 v_house_pullLaw_stack v_thought_things_kind v_thought_things_m v_thought_things_cell v_thought_things_broken v_thought_things_fell v_thought_things_count v_thought_things_taken v_thought_pulls v_errors)
  else (if (5 : Int32) < p2 then (s_X_screws_c29 v_house_pullLaw_stack v_thought_things_kind v_thought_things_m v_thought_things_cell v_thought_things_broken v_thought_things_fell v_thought_things_count v_thought_things_taken v_thought_pulls v_errors)
  else (if p3 < 0 then (s_X_screws_c29 v_house_pullLaw_stack v_thought_things_kind v_thought_things_m v_thought_things_cell v_thought_things_broken v_thought_things_fell v_thought_things_count v_thought_things_taken v_thought_pulls v_errors)
  else (if p3 ≤ (1 : Int32) then (j_b2 (s_Thought_foresee v_house_hour p1 v_thought_pulls v_house_things_count v_house_pullLaw_steps v_house_pullLaw_stack v_house_pullLaw_stepCount) (fun u3_pulls u4_stack => s_X_screws_c77 p1 p2 p3 v_house_things_count (((1 : Int32) <<< (v_house_things_count &&& 31)) - (1 : Int32)) v_house_things_kind v_house_things_m v_house_things_cell v_house_things_broken v_house_things_fell v_house_things_count v_house_things_taken v_house_walls u4_stack u3_pulls v_errors 400 (0 : Int32) v_thought_things_kind v_thought_things_m v_thought_things_cell v_thought_things_broken v_thought_things_fell v_thought_things_count v_thought_things_taken))
  else (s_X_screws_c29 v_house_pullLaw_stack v_thought_things_kind v_thought_things_m v_thought_things_cell v_thought_things_broken v_thought_things_fell v_thought_things_count v_thought_things_taken v_thought_pulls v_errors))))))

def s_X_lands_c14 (v_errors : Nat → Int32) : Option (Int32 × (Nat → Int32)) :=
  j_b2 (s_X_error (1 : Int32) v_errors) (fun r2 u3_errors => some (r2, u3_errors))

def s_X_lands (p1 : Int32) (p2 : Int32) (v_house_walls : Int64) (v_errors : Nat → Int32) : Option (Int32 × (Nat → Int32)) :=
  j_b1 (s_Grid_isCell p1) (fun r1 => if r1 = 0 then (s_X_lands_c14 v_errors)
  else (j_b1 (s_Grid_isWay p2) (fun r4 => if r4 = 0 then (s_X_lands_c14 v_errors)
  else (j_b1 (s_House_wallAt p1 v_house_walls) (fun r5 => if r5 = (1 : Int32) then (j_b2 (s_X_error (3 : Int32) v_errors) (fun r7 u8_errors => some (r7, u8_errors)))
  else (j_b1 (s_Grid_rest v_house_walls p1 p2) (fun r6 => some (r6, v_errors))))))))

def s_X_sources_c14 (v_landings_rests : Nat → Int32) (v_landings_walls : Int64) (v_errors : Nat → Int32) : Option (Int64 × (Nat → Int32) × Int64 × (Nat → Int32)) :=
  j_b2 (s_X_error (1 : Int32) v_errors) (fun r2 u3_errors => some ((j_i2l r2), v_landings_rests, v_landings_walls, u3_errors))

def s_X_sources (p1 : Int32) (p2 : Int32) (v_house_walls : Int64) (v_landings_rests : Nat → Int32) (v_landings_walls : Int64) (v_errors : Nat → Int32) : Option (Int64 × (Nat → Int32) × Int64 × (Nat → Int32)) :=
  j_b1 (s_Grid_isCell p1) (fun r1 => if r1 = 0 then (s_X_sources_c14 v_landings_rests v_landings_walls v_errors)
  else (j_b1 (s_Grid_isWay p2) (fun r4 => if r4 = 0 then (s_X_sources_c14 v_landings_rests v_landings_walls v_errors)
  else (j_b1 (s_House_wallAt p1 v_house_walls) (fun r5 => if r5 = (1 : Int32) then (j_b2 (s_X_error (3 : Int32) v_errors) (fun r9 u10_errors => some ((j_i2l r9), v_landings_rests, v_landings_walls, u10_errors)))
  else (j_b2 (s_Landings_learn v_house_walls v_landings_rests v_landings_walls) (fun u6_rests u7_walls => j_b1 (s_Landings_gather (j_lshl (1 : Int64) p1) p2 u6_rests u7_walls) (fun r8 => some (r8, u6_rests, u7_walls, v_errors)))))))))

def s_X_rooms_c17 (v_house_pullLaw_stack : Nat → Int32) (v_thought_pulls : Nat → Int32) (v_landings_rests : Nat → Int32) (v_landings_walls : Int64) (v_errors : Nat → Int32) : Option (Int64 × (Nat → Int32) × (Nat → Int32) × (Nat → Int32) × Int64 × (Nat → Int32)) :=
  j_b2 (s_X_error (1 : Int32) v_errors) (fun r2 u3_errors => some ((j_i2l r2), v_house_pullLaw_stack, v_thought_pulls, v_landings_rests, v_landings_walls, u3_errors))

def s_X_rooms_c83 (x2 : Int32) (v_house_pullLaw_stack : Nat → Int32) (v_thought_pulls : Nat → Int32) (v_landings_rests : Nat → Int32) (v_landings_walls : Int64) (v_errors : Nat → Int32) : Nat → Int64 → Int32 → (Option (Int64 × (Nat → Int32) × (Nat → Int32) × (Nat → Int32) × Int64 × (Nat → Int32)))
  | 0, _, _ => none
  | n + 1, x3, x5 =>
  if x2 ≤ x5 then (some (x3, v_house_pullLaw_stack, v_thought_pulls, v_landings_rests, v_landings_walls, v_errors))
  else (j_b1 (s_Thought_pullOf x5 v_thought_pulls) (fun r9 => j_b1 (s_Landings_spread x3 r9 v_landings_rests) (fun r10 => s_X_rooms_c83 x2 v_house_pullLaw_stack v_thought_pulls v_landings_rests v_landings_walls v_errors n (x3 ||| r10) (x5 + (1 : Int32)))))

def s_X_rooms (p1 : Int32) (p2 : Int32) (v_house_things_count : Int32) (v_house_walls : Int64) (v_house_hour : Int32) (v_house_pullLaw_steps : Nat → Int32) (v_house_pullLaw_stack : Nat → Int32) (v_house_pullLaw_stepCount : Int32) (v_thought_pulls : Nat → Int32) (v_landings_rests : Nat → Int32) (v_landings_walls : Int64) (v_errors : Nat → Int32) : Option (Int64 × (Nat → Int32) × (Nat → Int32) × (Nat → Int32) × Int64 × (Nat → Int32)) :=
  j_b1 (s_Grid_isCell p1) (fun r1 => if r1 = 0 then (s_X_rooms_c17 v_house_pullLaw_stack v_thought_pulls v_landings_rests v_landings_walls v_errors)
  else (if p2 < 0 then (s_X_rooms_c17 v_house_pullLaw_stack v_thought_pulls v_landings_rests v_landings_walls v_errors)
  else (if p2 ≤ (100 : Int32) then (j_b1 (s_House_wallAt p1 v_house_walls) (fun r4 => if r4 = (1 : Int32) then (j_b2 (s_X_error (3 : Int32) v_errors) (fun r11 u12_errors => some ((j_i2l r11), v_house_pullLaw_stack, v_thought_pulls, v_landings_rests, v_landings_walls, u12_errors)))
  else (j_b2 (s_Thought_foresee v_house_hour p2 v_thought_pulls v_house_things_count v_house_pullLaw_steps v_house_pullLaw_stack v_house_pullLaw_stepCount) (fun u5_pulls u6_stack => j_b2 (s_Landings_learn v_house_walls v_landings_rests v_landings_walls) (fun u7_rests u8_walls => s_X_rooms_c83 p2 u6_stack u5_pulls u7_rests u8_walls v_errors 400 (j_lshl (1 : Int64) p1) (0 : Int32))))))
  else (s_X_rooms_c17 v_house_pullLaw_stack v_thought_pulls v_landings_rests v_landings_walls v_errors))))

def s_X_soonest_c14 (v_house_pullLaw_stack : Nat → Int32) (v_thought_pulls : Nat → Int32) (v_landings_rests : Nat → Int32) (v_landings_walls : Int64) (v_errors : Nat → Int32) : Option (Int32 × (Nat → Int32) × (Nat → Int32) × (Nat → Int32) × Int64 × (Nat → Int32)) :=
  j_b2 (s_X_error (1 : Int32) v_errors) (fun r2 u3_errors => some (r2, v_house_pullLaw_stack, v_thought_pulls, v_landings_rests, v_landings_walls, u3_errors))

def s_X_soonest_c44 (v_house_pullLaw_stack : Nat → Int32) (v_thought_pulls : Nat → Int32) (v_landings_rests : Nat → Int32) (v_landings_walls : Int64) (v_errors : Nat → Int32) : Option (Int32 × (Nat → Int32) × (Nat → Int32) × (Nat → Int32) × Int64 × (Nat → Int32)) :=
  j_b2 (s_X_error (3 : Int32) v_errors) (fun r6 u7_errors => some (r6, v_house_pullLaw_stack, v_thought_pulls, v_landings_rests, v_landings_walls, u7_errors))

def s_X_soonest_c91 (x2 : Int32) (v_house_pullLaw_stack : Nat → Int32) (v_thought_pulls : Nat → Int32) (v_landings_rests : Nat → Int32) (v_landings_walls : Int64) (v_errors : Nat → Int32) : Nat → Int64 → Int32 → (Option (Int32 × (Nat → Int32) × (Nat → Int32) × (Nat → Int32) × Int64 × (Nat → Int32)))
  | 0, _, _ => none
  | n + 1, x3, x5 =>
  if (100 : Int32) ≤ x5 then (j_b1 (s_Grid_isIn x3 x2) (fun r13 => if r13 = 0 then (j_b2 (s_X_error (2 : Int32) v_errors) (fun r14 u15_errors => some (r14, v_house_pullLaw_stack, v_thought_pulls, v_landings_rests, v_landings_walls, u15_errors)))
  else (some ((100 : Int32), v_house_pullLaw_stack, v_thought_pulls, v_landings_rests, v_landings_walls, v_errors))))
  else (j_b1 (s_Grid_isIn x3 x2) (fun r16 => if r16 = 0 then (j_b1 (s_Thought_pullOf x5 v_thought_pulls) (fun r17 => j_b1 (s_Landings_spread x3 r17 v_landings_rests) (fun r18 => s_X_soonest_c91 x2 v_house_pullLaw_stack v_thought_pulls v_landings_rests v_landings_walls v_errors n (x3 ||| r18) (x5 + (1 : Int32)))))
  else (some (x5, v_house_pullLaw_stack, v_thought_pulls, v_landings_rests, v_landings_walls, v_errors))))

def s_X_soonest (p1 : Int32) (p2 : Int32) (v_house_things_count : Int32) (v_house_walls : Int64) (v_house_hour : Int32) (v_house_pullLaw_steps : Nat → Int32) (v_house_pullLaw_stack : Nat → Int32) (v_house_pullLaw_stepCount : Int32) (v_thought_pulls : Nat → Int32) (v_landings_rests : Nat → Int32) (v_landings_walls : Int64) (v_errors : Nat → Int32) : Option (Int32 × (Nat → Int32) × (Nat → Int32) × (Nat → Int32) × Int64 × (Nat → Int32)) :=
  j_b1 (s_Grid_isCell p1) (fun r1 => if r1 = 0 then (s_X_soonest_c14 v_house_pullLaw_stack v_thought_pulls v_landings_rests v_landings_walls v_errors)
  else (j_b1 (s_Grid_isCell p2) (fun r4 => if r4 = 0 then (s_X_soonest_c14 v_house_pullLaw_stack v_thought_pulls v_landings_rests v_landings_walls v_errors)
  else (j_b1 (s_House_wallAt p1 v_house_walls) (fun r5 => if r5 = (1 : Int32) then (s_X_soonest_c44 v_house_pullLaw_stack v_thought_pulls v_landings_rests v_landings_walls v_errors)
  else (j_b1 (s_House_wallAt p2 v_house_walls) (fun r8 => if r8 = (1 : Int32) then (s_X_soonest_c44 v_house_pullLaw_stack v_thought_pulls v_landings_rests v_landings_walls v_errors)
  else (j_b2 (s_Thought_foresee v_house_hour (100 : Int32) v_thought_pulls v_house_things_count v_house_pullLaw_steps v_house_pullLaw_stack v_house_pullLaw_stepCount) (fun u9_pulls u10_stack => j_b2 (s_Landings_learn v_house_walls v_landings_rests v_landings_walls) (fun u11_rests u12_walls => s_X_soonest_c91 p2 u10_stack u9_pulls u11_rests u12_walls v_errors 400 (j_lshl (1 : Int64) p1) (0 : Int32)))))))))))

def s_X_shut_c75 (v_house_walls : Int64) (v_house_pullLaw_stack : Nat → Int32) (v_thought_pulls : Nat → Int32) (v_landings_rests : Nat → Int32) (v_landings_walls : Int64) (v_errors : Nat → Int32) : Nat → Int64 → Int32 → (Option (Int64 × (Nat → Int32) × (Nat → Int32) × (Nat → Int32) × Int64 × (Nat → Int32)))
  | 0, _, _ => none
  | n + 1, x2, x4 =>
  if x4 < 0 then (some ((((68719476735 : Int64) &&& (v_house_walls ^^^ (-1 : Int64))) &&& (x2 ^^^ (-1 : Int64))), v_house_pullLaw_stack, v_thought_pulls, v_landings_rests, v_landings_walls, v_errors))
  else (j_b1 (s_Thought_pullOf x4 v_thought_pulls) (fun r7 => j_b1 (s_Landings_gather x2 r7 v_landings_rests v_landings_walls) (fun r8 => s_X_shut_c75 v_house_walls v_house_pullLaw_stack v_thought_pulls v_landings_rests v_landings_walls v_errors n (x2 ||| r8) (x4 + (-1 : Int32)))))

def s_X_shut (p1 : Int32) (v_house_things_count : Int32) (v_house_walls : Int64) (v_house_hour : Int32) (v_house_pullLaw_steps : Nat → Int32) (v_house_pullLaw_stack : Nat → Int32) (v_house_pullLaw_stepCount : Int32) (v_thought_pulls : Nat → Int32) (v_landings_rests : Nat → Int32) (v_landings_walls : Int64) (v_errors : Nat → Int32) : Option (Int64 × (Nat → Int32) × (Nat → Int32) × (Nat → Int32) × Int64 × (Nat → Int32)) :=
  j_b1 (s_Grid_isCell p1) (fun r1 => if r1 = 0 then (j_b2 (s_X_error (1 : Int32) v_errors) (fun r11 u12_errors => some ((j_i2l r11), v_house_pullLaw_stack, v_thought_pulls, v_landings_rests, v_landings_walls, u12_errors)))
  else (j_b1 (s_House_wallAt p1 v_house_walls) (fun r2 => if r2 = (1 : Int32) then (j_b2 (s_X_error (3 : Int32) v_errors) (fun r9 u10_errors => some ((j_i2l r9), v_house_pullLaw_stack, v_thought_pulls, v_landings_rests, v_landings_walls, u10_errors)))
  else (j_b2 (s_Thought_foresee v_house_hour (100 : Int32) v_thought_pulls v_house_things_count v_house_pullLaw_steps v_house_pullLaw_stack v_house_pullLaw_stepCount) (fun u3_pulls u4_stack => j_b2 (s_Landings_learn v_house_walls v_landings_rests v_landings_walls) (fun u5_rests u6_walls => s_X_shut_c75 v_house_walls u4_stack u3_pulls u5_rests u6_walls v_errors 400 (j_lshl (1 : Int64) p1) (99 : Int32)))))))

def s_X_fitsFrom_c13 (x1 : Int32) (x2 : Int32) (v_thought_pulls : Nat → Int32) (v_landings_rests : Nat → Int32) (v_sheets_length : Nat → Int32) (v_sheets_numbers : Nat → Int32) : Nat → Int32 → Int32 → Option (Int32)
  | 0, _, _ => none
  | n + 1, x3, x4 =>
  j_chk x1 4 (if (v_sheets_length x1.toNatClampNeg) ≤ x4 then (some ((1 : Int32)))
  else (j_b1 (s_Thought_pullOf ((x2 + x4) - (1 : Int32)) v_thought_pulls) (fun r2 => j_b1 (s_Landings_rest x3 r2 v_landings_rests) (fun r3 => j_b1 (s_Sheets_numberAt x1 x4 v_sheets_length v_sheets_numbers) (fun r4 => if r3 = r4 then (s_X_fitsFrom_c13 x1 x2 v_thought_pulls v_landings_rests v_sheets_length v_sheets_numbers n r3 (x4 + (1 : Int32)))
  else (some ((0 : Int32))))))))

def s_X_fitsFrom (p1 : Int32) (p2 : Int32) (v_thought_pulls : Nat → Int32) (v_landings_rests : Nat → Int32) (v_sheets_length : Nat → Int32) (v_sheets_numbers : Nat → Int32) : Option (Int32) :=
  j_b1 (s_Sheets_numberAt p1 (0 : Int32) v_sheets_length v_sheets_numbers) (fun r1 => s_X_fitsFrom_c13 p1 p2 v_thought_pulls v_landings_rests v_sheets_length v_sheets_numbers 400 r1 (1 : Int32))

def s_X_fits_c36 (v_house_pullLaw_stack : Nat → Int32) (v_thought_pulls : Nat → Int32) (v_landings_rests : Nat → Int32) (v_landings_walls : Int64) (v_errors : Nat → Int32) : Option (Int32 × (Nat → Int32) × (Nat → Int32) × (Nat → Int32) × Int64 × (Nat → Int32)) :=
  j_b2 (s_X_error (2 : Int32) v_errors) (fun r3 u4_errors => some (r3, v_house_pullLaw_stack, v_thought_pulls, v_landings_rests, v_landings_walls, u4_errors))

def s_X_fits_c130 (k_106 : Int32 → Int32 → (Option (Int32 × (Nat → Int32) × (Nat → Int32) × (Nat → Int32) × Int64 × (Nat → Int32)))) (x4 : Int32) (x3 : Int32) : Option (Int32 × (Nat → Int32) × (Nat → Int32) × (Nat → Int32) × Int64 × (Nat → Int32)) :=
  k_106 x3 (x4 + (1 : Int32))

def s_X_fits_c106 (x1 : Int32) (v_house_pullLaw_stack : Nat → Int32) (v_thought_pulls : Nat → Int32) (v_landings_rests : Nat → Int32) (v_landings_walls : Int64) (v_sheets_length : Nat → Int32) (v_sheets_numbers : Nat → Int32) (v_errors : Nat → Int32) : Nat → Int32 → Int32 → (Option (Int32 × (Nat → Int32) × (Nat → Int32) × (Nat → Int32) × Int64 × (Nat → Int32)))
  | 0, _, _ => none
  | n + 1, x3, x4 =>
  if (12 : Int32) ≤ x4 then (some (x3, v_house_pullLaw_stack, v_thought_pulls, v_landings_rests, v_landings_walls, v_errors))
  else (j_b1 (s_X_fitsFrom x1 x4 v_thought_pulls v_landings_rests v_sheets_length v_sheets_numbers) (fun r12 => if r12 = 0 then (s_X_fits_c130 (s_X_fits_c106 x1 v_house_pullLaw_stack v_thought_pulls v_landings_rests v_landings_walls v_sheets_length v_sheets_numbers v_errors n) x4 x3)
  else (s_X_fits_c130 (s_X_fits_c106 x1 v_house_pullLaw_stack v_thought_pulls v_landings_rests v_landings_walls v_sheets_length v_sheets_numbers v_errors n) x4 (x3 ||| ((1 : Int32) <<< (x4 &&& 31))))))

def s_X_fits (p1 : Int32) (v_house_things_count : Int32) (v_house_walls : Int64) (v_house_pullLaw_steps : Nat → Int32) (v_house_pullLaw_stack : Nat → Int32) (v_house_pullLaw_stepCount : Int32) (v_thought_pulls : Nat → Int32) (v_landings_rests : Nat → Int32) (v_landings_walls : Int64) (v_sheets_bits : Nat → Int32) (v_sheets_length : Nat → Int32) (v_sheets_numbers : Nat → Int32) (v_errors : Nat → Int32) : Option (Int32 × (Nat → Int32) × (Nat → Int32) × (Nat → Int32) × Int64 × (Nat → Int32)) :=
  j_b1 (s_Sheets_isSheet p1) (fun r1 => if r1 = 0 then (j_b2 (s_X_error (1 : Int32) v_errors) (fun r13 u14_errors => some (r13, v_house_pullLaw_stack, v_thought_pulls, v_landings_rests, v_landings_walls, u14_errors)))
  else (j_b1 (s_Sheets_isMissing p1 v_sheets_bits) (fun r2 => if r2 = 0 then (j_chk p1 4 (if (v_sheets_length p1.toNatClampNeg) = 0 then (s_X_fits_c36 v_house_pullLaw_stack v_thought_pulls v_landings_rests v_landings_walls v_errors)
  else (j_b1 (s_Sheets_numberAt p1 (0 : Int32) v_sheets_length v_sheets_numbers) (fun r5 => j_b1 (s_Grid_isCell r5) (fun r6 => if r6 = 0 then (some ((0 : Int32), v_house_pullLaw_stack, v_thought_pulls, v_landings_rests, v_landings_walls, v_errors))
  else (j_b1 (s_House_wallAt r5 v_house_walls) (fun r7 => if r7 = (1 : Int32) then (some ((0 : Int32), v_house_pullLaw_stack, v_thought_pulls, v_landings_rests, v_landings_walls, v_errors))
  else (j_b2 (s_Thought_foresee (0 : Int32) (36 : Int32) v_thought_pulls v_house_things_count v_house_pullLaw_steps v_house_pullLaw_stack v_house_pullLaw_stepCount) (fun u8_pulls u9_stack => j_b2 (s_Landings_learn v_house_walls v_landings_rests v_landings_walls) (fun u10_rests u11_walls => s_X_fits_c106 p1 u9_stack u8_pulls u10_rests u11_walls v_sheets_length v_sheets_numbers v_errors 400 (0 : Int32) (0 : Int32)))))))))))
  else (s_X_fits_c36 v_house_pullLaw_stack v_thought_pulls v_landings_rests v_landings_walls v_errors))))

def s_X_voice_c23 (v_voices_parted : Int32) (v_voices_traced : Int32) (v_voices_trace : Nat → Int32) (v_voices_kind : Int32) (v_voices_number : Int32) (v_voices_m : Int32) (v_errors : Nat → Int32) : Option (Int32 × Int32 × Int32 × (Nat → Int32) × Int32 × Int32 × Int32 × (Nat → Int32)) :=
  j_b2 (s_X_error (1 : Int32) v_errors) (fun r2 u3_errors => some (r2, v_voices_parted, v_voices_traced, v_voices_trace, v_voices_kind, v_voices_number, v_voices_m, u3_errors))

def s_X_voice (p1 : Int32) (p2 : Int32) (p3 : Int32) (v_house_things_kind : Nat → Int32) (v_house_things_m : Nat → Int32) (v_house_things_count : Int32) (v_voices_parted : Int32) (v_voices_traced : Int32) (v_voices_trace : Nat → Int32) (v_voices_kind : Int32) (v_voices_number : Int32) (v_voices_m : Int32) (v_errors : Nat → Int32) : Option (Int32 × Int32 × Int32 × (Nat → Int32) × Int32 × Int32 × Int32 × (Nat → Int32)) :=
  j_b1 (s_Things_has p1 v_house_things_count) (fun r1 => if r1 = 0 then (s_X_voice_c23 v_voices_parted v_voices_traced v_voices_trace v_voices_kind v_voices_number v_voices_m v_errors)
  else (if p2 < 0 then (s_X_voice_c23 v_voices_parted v_voices_traced v_voices_trace v_voices_kind v_voices_number v_voices_m v_errors)
  else (if p2 ≤ (3 : Int32) then (j_chk p1 6 (j_chk p1 6 (j_b7 (s_Voices_speak (v_house_things_kind p1.toNatClampNeg) p1 (v_house_things_m p1.toNatClampNeg) p2 p3 v_voices_parted v_voices_traced v_voices_trace v_voices_kind v_voices_number v_voices_m) (fun r4 u5_parted u6_traced u7_trace u8_kind u9_number u10_m => if u5_parted = 0 then (some (r4, u5_parted, u6_traced, u7_trace, u8_kind, u9_number, u10_m, v_errors))
  else (j_b2 (s_X_error (6 : Int32) v_errors) (fun r11 u12_errors => some (r11, u5_parted, u6_traced, u7_trace, u8_kind, u9_number, u10_m, u12_errors)))))))
  else (s_X_voice_c23 v_voices_parted v_voices_traced v_voices_trace v_voices_kind v_voices_number v_voices_m v_errors))))

def s_X_body_c15 (v_errors : Nat → Int32) : Option (Int32 × (Nat → Int32)) :=
  j_b2 (s_X_error (2 : Int32) v_errors) (fun r1 u2_errors => some (r1, u2_errors))

def s_X_body (p1 : Int32) (v_voices_traced : Int32) (v_voices_trace : Nat → Int32) (v_errors : Nat → Int32) : Option (Int32 × (Nat → Int32)) :=
  if p1 < 0 then (s_X_body_c15 v_errors)
  else (if p1 < v_voices_traced then (j_b1 (s_Voices_bodyInTrace p1 v_voices_traced v_voices_trace) (fun r3 => some (r3, v_errors)))
  else (s_X_body_c15 v_errors))

def s_X_sheet_c18 (v_sheets_bits : Nat → Int32) (v_sheets_length : Nat → Int32) (v_sheets_numbers : Nat → Int32) (v_errors : Nat → Int32) : Option (Int32 × (Nat → Int32) × (Nat → Int32) × (Nat → Int32) × (Nat → Int32)) :=
  j_b2 (s_X_error (1 : Int32) v_errors) (fun r2 u3_errors => some (r2, v_sheets_bits, v_sheets_length, v_sheets_numbers, u3_errors))

def s_X_sheet_c24 (x1 : Int32) (x2 : Int32) (x3 : Int32) (v_sheets_bits : Nat → Int32) (v_sheets_length : Nat → Int32) (v_sheets_numbers : Nat → Int32) (v_errors : Nat → Int32) : Option (Int32 × (Nat → Int32) × (Nat → Int32) × (Nat → Int32) × (Nat → Int32)) :=
  if x2 = 0 then (j_b2 (s_Sheets_take x1 v_sheets_bits v_sheets_length) (fun u11_bits u12_length => some ((1 : Int32), u11_bits, u12_length, v_sheets_numbers, v_errors)))
  else (if 0 ≤ x3 then (if x3 ≤ (24 : Int32) then (j_b3 (s_Sheets_lay x1 x2 x3 v_sheets_bits v_sheets_length v_sheets_numbers) (fun u4_bits u5_length u6_numbers => some ((1 : Int32), u4_bits, u5_length, u6_numbers, v_errors)))
  else (j_b2 (s_X_error (1 : Int32) v_errors) (fun r7 u8_errors => some (r7, v_sheets_bits, v_sheets_length, v_sheets_numbers, u8_errors))))
  else (j_b2 (s_X_error (3 : Int32) v_errors) (fun r9 u10_errors => some (r9, v_sheets_bits, v_sheets_length, v_sheets_numbers, u10_errors))))

def s_X_sheet (p1 : Int32) (p2 : Int32) (p3 : Int32) (v_sheets_bits : Nat → Int32) (v_sheets_length : Nat → Int32) (v_sheets_numbers : Nat → Int32) (v_errors : Nat → Int32) : Option (Int32 × (Nat → Int32) × (Nat → Int32) × (Nat → Int32) × (Nat → Int32)) :=
  j_b1 (s_Sheets_isSheet p1) (fun r1 => if r1 = 0 then (s_X_sheet_c18 v_sheets_bits v_sheets_length v_sheets_numbers v_errors)
  else (if p2 = 0 then (s_X_sheet_c24 p1 p2 p3 v_sheets_bits v_sheets_length v_sheets_numbers v_errors)
  else (j_b1 (s_Sheets_isWidth p2) (fun r13 => if r13 = 0 then (s_X_sheet_c18 v_sheets_bits v_sheets_length v_sheets_numbers v_errors)
  else (s_X_sheet_c24 p1 p2 p3 v_sheets_bits v_sheets_length v_sheets_numbers v_errors)))))

def s_X_put_c47 (v_sheets_numbers : Nat → Int32) (v_errors : Nat → Int32) : Option (Int32 × (Nat → Int32) × (Nat → Int32)) :=
  j_b2 (s_X_error (1 : Int32) v_errors) (fun r3 u4_errors => some (r3, v_sheets_numbers, u4_errors))

def s_X_put (p1 : Int32) (p2 : Int32) (p3 : Int32) (v_sheets_bits : Nat → Int32) (v_sheets_length : Nat → Int32) (v_sheets_numbers : Nat → Int32) (v_errors : Nat → Int32) : Option (Int32 × (Nat → Int32) × (Nat → Int32)) :=
  j_b1 (s_Sheets_isSheet p1) (fun r1 => if r1 = 0 then (j_b2 (s_X_error (1 : Int32) v_errors) (fun r8 u9_errors => some (r8, v_sheets_numbers, u9_errors)))
  else (j_b1 (s_Sheets_isMissing p1 v_sheets_bits) (fun r2 => if r2 = 0 then (if p2 < 0 then (s_X_put_c47 v_sheets_numbers v_errors)
  else (j_chk p1 4 (if p2 < (v_sheets_length p1.toNatClampNeg) then (j_b1 (s_Sheets_write p1 p2 p3 v_sheets_bits v_sheets_length v_sheets_numbers) (fun u5_numbers => some ((1 : Int32), u5_numbers, v_errors)))
  else (s_X_put_c47 v_sheets_numbers v_errors))))
  else (j_b2 (s_X_error (2 : Int32) v_errors) (fun r6 u7_errors => some (r6, v_sheets_numbers, u7_errors))))))

def s_X_move_c14 (v_sheets_numbers : Nat → Int32) (v_errors : Nat → Int32) : Option (Int32 × (Nat → Int32) × (Nat → Int32)) :=
  j_b2 (s_X_error (1 : Int32) v_errors) (fun r2 u3_errors => some (r2, v_sheets_numbers, u3_errors))

def s_X_move_c42 (v_sheets_numbers : Nat → Int32) (v_errors : Nat → Int32) : Option (Int32 × (Nat → Int32) × (Nat → Int32)) :=
  j_b2 (s_X_error (2 : Int32) v_errors) (fun r6 u7_errors => some (r6, v_sheets_numbers, u7_errors))

def s_X_move_c104 (v_sheets_numbers : Nat → Int32) (v_errors : Nat → Int32) : Option (Int32 × (Nat → Int32) × (Nat → Int32)) :=
  j_b2 (s_X_error (1 : Int32) v_errors) (fun r10 u11_errors => some (r10, v_sheets_numbers, u11_errors))

def s_X_move (p1 : Int32) (p2 : Int32) (p3 : Int32) (p4 : Int32) (p5 : Int32) (v_sheets_bits : Nat → Int32) (v_sheets_length : Nat → Int32) (v_sheets_numbers : Nat → Int32) (v_errors : Nat → Int32) : Option (Int32 × (Nat → Int32) × (Nat → Int32)) :=
  j_b1 (s_Sheets_isSheet p1) (fun r1 => if r1 = 0 then (s_X_move_c14 v_sheets_numbers v_errors)
  else (j_b1 (s_Sheets_isSheet p3) (fun r4 => if r4 = 0 then (s_X_move_c14 v_sheets_numbers v_errors)
  else (j_b1 (s_Sheets_isMissing p1 v_sheets_bits) (fun r5 => if r5 = 0 then (j_b1 (s_Sheets_isMissing p3 v_sheets_bits) (fun r8 => if r8 = 0 then (j_chk p1 4 (j_chk p3 4 (if (v_sheets_bits p1.toNatClampNeg) = (v_sheets_bits p3.toNatClampNeg) then (j_b1 (s_Sheets_standThere p1 p2 p5 v_sheets_length) (fun r9 => if r9 = 0 then (s_X_move_c104 v_sheets_numbers v_errors)
  else (j_b1 (s_Sheets_standThere p3 p4 p5 v_sheets_length) (fun r12 => if r12 = 0 then (s_X_move_c104 v_sheets_numbers v_errors)
  else (j_b1 (s_Sheets_copyNumbers p1 p2 p3 p4 p5 v_sheets_length v_sheets_numbers) (fun u13_numbers => some (p5, u13_numbers, v_errors)))))))
  else (j_b2 (s_X_error (5 : Int32) v_errors) (fun r14 u15_errors => some (r14, v_sheets_numbers, u15_errors))))))
  else (s_X_move_c42 v_sheets_numbers v_errors)))
  else (s_X_move_c42 v_sheets_numbers v_errors))))))

def s_X_walls_c110 (k_42 : Int32 → Int64 → (Option (Int32 × Int64 × (Nat → Int32)))) (x3 : Int32) (x4 : Int32) (v_house_walls : Int64) : Option (Int32 × Int64 × (Nat → Int32)) :=
  j_b1 (s_House_setWall x3 x4 v_house_walls) (fun u5_walls => k_42 (x3 + (1 : Int32)) u5_walls)

def s_X_walls_c81 (k_42 : Int32 → Int64 → (Option (Int32 × Int64 × (Nat → Int32)))) (x3 : Int32) (x4 : Int32) (v_house_things_cell : Nat → Int32) (v_house_things_count : Int32) (v_house_walls : Int64) (v_errors : Nat → Int32) (k0 : Int32) : Option (Int32 × Int64 × (Nat → Int32)) :=
  if k0 = 0 then (some (x3, v_house_walls, v_errors))
  else (if x4 = (1 : Int32) then (j_b1 (s_Things_inCell x3 v_house_things_cell v_house_things_count) (fun r6 => if r6 < 0 then (s_X_walls_c110 k_42 x3 x4 v_house_walls)
  else (some (x3, v_house_walls, v_errors))))
  else (s_X_walls_c110 k_42 x3 x4 v_house_walls))

def s_X_walls_c80 (k_42 : Int32 → Int64 → (Option (Int32 × Int64 × (Nat → Int32)))) (x3 : Int32) (x4 : Int32) (v_house_things_cell : Nat → Int32) (v_house_things_count : Int32) (v_house_walls : Int64) (v_errors : Nat → Int32) : Option (Int32 × Int64 × (Nat → Int32)) :=
  s_X_walls_c81 k_42 x3 x4 v_house_things_cell v_house_things_count v_house_walls v_errors (0 : Int32)

def s_X_walls_c76 (k_42 : Int32 → Int64 → (Option (Int32 × Int64 × (Nat → Int32)))) (x3 : Int32) (x4 : Int32) (v_house_things_cell : Nat → Int32) (v_house_things_count : Int32) (v_house_walls : Int64) (v_errors : Nat → Int32) : Option (Int32 × Int64 × (Nat → Int32)) :=
  s_X_walls_c81 k_42 x3 x4 v_house_things_cell v_house_things_count v_house_walls v_errors (1 : Int32)

def s_X_walls_c42 (x1 : Int32) (x2 : Int32) (v_house_things_cell : Nat → Int32) (v_house_things_count : Int32) (v_sheets_length : Nat → Int32) (v_sheets_numbers : Nat → Int32) (v_errors : Nat → Int32) : Nat → Int32 → Int64 → (Option (Int32 × Int64 × (Nat → Int32)))
  | 0, _, _ => none
  | n + 1, x3, v_house_walls =>
  if x2 ≤ x3 then (some (x2, v_house_walls, v_errors))
  else (j_b1 (s_Sheets_numberAt x1 x3 v_sheets_length v_sheets_numbers) (fun r3 => j_b1 (s_Grid_isCell x3) (fun r4 => if r4 = 0 then (s_X_walls_c80 (s_X_walls_c42 x1 x2 v_house_things_cell v_house_things_count v_sheets_length v_sheets_numbers v_errors n) x3 r3 v_house_things_cell v_house_things_count v_house_walls v_errors)
  else (if r3 = 0 then (s_X_walls_c76 (s_X_walls_c42 x1 x2 v_house_things_cell v_house_things_count v_sheets_length v_sheets_numbers v_errors n) x3 r3 v_house_things_cell v_house_things_count v_house_walls v_errors)
  else (if r3 = (1 : Int32) then (s_X_walls_c76 (s_X_walls_c42 x1 x2 v_house_things_cell v_house_things_count v_sheets_length v_sheets_numbers v_errors n) x3 r3 v_house_things_cell v_house_things_count v_house_walls v_errors)
  else (s_X_walls_c80 (s_X_walls_c42 x1 x2 v_house_things_cell v_house_things_count v_sheets_length v_sheets_numbers v_errors n) x3 r3 v_house_things_cell v_house_things_count v_house_walls v_errors))))))

def s_X_walls (p1 : Int32) (v_house_things_cell : Nat → Int32) (v_house_things_count : Int32) (v_house_walls : Int64) (v_sheets_bits : Nat → Int32) (v_sheets_length : Nat → Int32) (v_sheets_numbers : Nat → Int32) (v_errors : Nat → Int32) : Option (Int32 × Int64 × (Nat → Int32)) :=
  j_b1 (s_Sheets_isSheet p1) (fun r1 => if r1 = 0 then (j_b2 (s_X_error (1 : Int32) v_errors) (fun r9 u10_errors => some (r9, v_house_walls, u10_errors)))
  else (j_b1 (s_Sheets_isMissing p1 v_sheets_bits) (fun r2 => if r2 = 0 then (j_chk p1 4 (s_X_walls_c42 p1 (v_sheets_length p1.toNatClampNeg) v_house_things_cell v_house_things_count v_sheets_length v_sheets_numbers v_errors 400 (0 : Int32) v_house_walls))
  else (j_b2 (s_X_error (2 : Int32) v_errors) (fun r7 u8_errors => some (r7, v_house_walls, u8_errors))))))

def s_X_judge_c42 (x1 : Int32) (x2 : Int32) (v_house_things_count : Int32) (v_house_hour : Int32) (v_house_pullLaw_steps : Nat → Int32) (v_house_pullLaw_stepCount : Int32) (v_sheets_length : Nat → Int32) (v_sheets_numbers : Nat → Int32) (v_errors : Nat → Int32) : Nat → Int32 → (Nat → Int32) → (Option (Int32 × (Nat → Int32) × (Nat → Int32)))
  | 0, _, _ => none
  | n + 1, x3, v_house_pullLaw_stack =>
  if x2 ≤ x3 then (some (x2, v_house_pullLaw_stack, v_errors))
  else (j_b1 (s_Sheets_numberAt x1 x3 v_sheets_length v_sheets_numbers) (fun r3 => j_b2 (s_House_pullAt (v_house_hour + x3) v_house_things_count v_house_pullLaw_steps v_house_pullLaw_stack v_house_pullLaw_stepCount) (fun r4 u5_stack => if r3 = r4 then (s_X_judge_c42 x1 x2 v_house_things_count v_house_hour v_house_pullLaw_steps v_house_pullLaw_stepCount v_sheets_length v_sheets_numbers v_errors n (x3 + (1 : Int32)) u5_stack)
  else (some (x3, u5_stack, v_errors)))))

def s_X_judge (p1 : Int32) (v_house_things_count : Int32) (v_house_hour : Int32) (v_house_pullLaw_steps : Nat → Int32) (v_house_pullLaw_stack : Nat → Int32) (v_house_pullLaw_stepCount : Int32) (v_sheets_bits : Nat → Int32) (v_sheets_length : Nat → Int32) (v_sheets_numbers : Nat → Int32) (v_errors : Nat → Int32) : Option (Int32 × (Nat → Int32) × (Nat → Int32)) :=
  j_b1 (s_Sheets_isSheet p1) (fun r1 => if r1 = 0 then (j_b2 (s_X_error (1 : Int32) v_errors) (fun r8 u9_errors => some (r8, v_house_pullLaw_stack, u9_errors)))
  else (j_b1 (s_Sheets_isMissing p1 v_sheets_bits) (fun r2 => if r2 = 0 then (j_chk p1 4 (s_X_judge_c42 p1 (v_sheets_length p1.toNatClampNeg) v_house_things_count v_house_hour v_house_pullLaw_steps v_house_pullLaw_stepCount v_sheets_length v_sheets_numbers v_errors 400 (0 : Int32) v_house_pullLaw_stack))
  else (j_b2 (s_X_error (2 : Int32) v_errors) (fun r6 u7_errors => some (r6, v_house_pullLaw_stack, u7_errors))))))

def s_X_image (v_house_things_kind : Nat → Int32) (v_house_things_m : Nat → Int32) (v_house_things_cell : Nat → Int32) (v_house_things_broken : Nat → Int32) (v_house_things_fell : Nat → Int32) (v_house_things_count : Int32) (v_house_things_taken : Int64) (v_house_tape : Nat → Int32) (v_house_walls : Int64) (v_house_hour : Int32) (v_house_z : Int32) (v_house_tapeLength : Int32) (v_house_waits : Int32) (v_house_pullLaw_steps : Nat → Int32) (v_house_pullLaw_stepCount : Int32) (v_house_breakLaw_steps : Nat → Int32) (v_house_breakLaw_stepCount : Int32) (v_house_waiting : Nat → Int32) (v_imageOfHouse_things_kind : Nat → Int32) (v_imageOfHouse_things_m : Nat → Int32) (v_imageOfHouse_things_cell : Nat → Int32) (v_imageOfHouse_things_broken : Nat → Int32) (v_imageOfHouse_things_fell : Nat → Int32) (v_imageOfHouse_things_count : Int32) (v_imageOfHouse_things_taken : Int64) (v_imageOfHouse_tape : Nat → Int32) (v_imageOfHouse_walls : Int64) (v_imageOfHouse_hour : Int32) (v_imageOfHouse_z : Int32) (v_imageOfHouse_tapeLength : Int32) (v_imageOfHouse_waits : Int32) (v_imageOfHouse_pullLaw_steps : Nat → Int32) (v_imageOfHouse_pullLaw_stepCount : Int32) (v_imageOfHouse_breakLaw_steps : Nat → Int32) (v_imageOfHouse_breakLaw_stepCount : Int32) (v_imageOfHouse_waiting : Nat → Int32) (v_images : Int32) : Option (Int32 × (Nat → Int32) × (Nat → Int32) × (Nat → Int32) × (Nat → Int32) × (Nat → Int32) × Int32 × Int64 × (Nat → Int32) × Int64 × Int32 × Int32 × Int32 × Int32 × (Nat → Int32) × Int32 × (Nat → Int32) × Int32 × (Nat → Int32) × Int32) :=
  j_b18 (s_House_takeOver v_imageOfHouse_things_kind v_imageOfHouse_things_m v_imageOfHouse_things_cell v_imageOfHouse_things_broken v_imageOfHouse_things_fell v_imageOfHouse_things_count v_imageOfHouse_things_taken v_imageOfHouse_tape v_imageOfHouse_walls v_imageOfHouse_hour v_imageOfHouse_z v_imageOfHouse_tapeLength v_imageOfHouse_waits v_imageOfHouse_pullLaw_steps v_imageOfHouse_pullLaw_stepCount v_imageOfHouse_breakLaw_steps v_imageOfHouse_breakLaw_stepCount v_imageOfHouse_waiting v_house_things_kind v_house_things_m v_house_things_cell v_house_things_broken v_house_things_fell v_house_things_count v_house_things_taken v_house_tape v_house_walls v_house_hour v_house_z v_house_tapeLength v_house_waits v_house_pullLaw_steps v_house_pullLaw_stepCount v_house_breakLaw_steps v_house_breakLaw_stepCount v_house_waiting) (fun u1_kind u2_m u3_cell u4_broken u5_fell u6_count u7_taken u8_tape u9_walls u10_hour u11_z u12_tapeLength u13_waits u14_steps u15_stepCount u16_steps u17_stepCount u18_waiting => some ((v_images + (1 : Int32)), u1_kind, u2_m, u3_cell, u4_broken, u5_fell, u6_count, u7_taken, u8_tape, u9_walls, u10_hour, u11_z, u12_tapeLength, u13_waits, u14_steps, u15_stepCount, u16_steps, u17_stepCount, u18_waiting, (v_images + (1 : Int32))))

def s_X_restore (v_house_things_kind : Nat → Int32) (v_house_things_m : Nat → Int32) (v_house_things_cell : Nat → Int32) (v_house_things_broken : Nat → Int32) (v_house_things_fell : Nat → Int32) (v_house_things_count : Int32) (v_house_things_taken : Int64) (v_house_tape : Nat → Int32) (v_house_walls : Int64) (v_house_hour : Int32) (v_house_z : Int32) (v_house_tapeLength : Int32) (v_house_waits : Int32) (v_house_pullLaw_steps : Nat → Int32) (v_house_pullLaw_stepCount : Int32) (v_house_breakLaw_steps : Nat → Int32) (v_house_breakLaw_stepCount : Int32) (v_house_waiting : Nat → Int32) (v_imageOfHouse_things_kind : Nat → Int32) (v_imageOfHouse_things_m : Nat → Int32) (v_imageOfHouse_things_cell : Nat → Int32) (v_imageOfHouse_things_broken : Nat → Int32) (v_imageOfHouse_things_fell : Nat → Int32) (v_imageOfHouse_things_count : Int32) (v_imageOfHouse_things_taken : Int64) (v_imageOfHouse_tape : Nat → Int32) (v_imageOfHouse_walls : Int64) (v_imageOfHouse_hour : Int32) (v_imageOfHouse_z : Int32) (v_imageOfHouse_tapeLength : Int32) (v_imageOfHouse_waits : Int32) (v_imageOfHouse_pullLaw_steps : Nat → Int32) (v_imageOfHouse_pullLaw_stepCount : Int32) (v_imageOfHouse_breakLaw_steps : Nat → Int32) (v_imageOfHouse_breakLaw_stepCount : Int32) (v_imageOfHouse_waiting : Nat → Int32) (v_errors : Nat → Int32) (v_images : Int32) : Option (Int32 × (Nat → Int32) × (Nat → Int32) × (Nat → Int32) × (Nat → Int32) × (Nat → Int32) × Int32 × Int64 × (Nat → Int32) × Int64 × Int32 × Int32 × Int32 × Int32 × (Nat → Int32) × Int32 × (Nat → Int32) × Int32 × (Nat → Int32) × (Nat → Int32)) :=
  if v_images = 0 then (j_b2 (s_X_error (2 : Int32) v_errors) (fun r19 u20_errors => some (r19, v_house_things_kind, v_house_things_m, v_house_things_cell, v_house_things_broken, v_house_things_fell, v_house_things_count, v_house_things_taken, v_house_tape, v_house_walls, v_house_hour, v_house_z, v_house_tapeLength, v_house_waits, v_house_pullLaw_steps, v_house_pullLaw_stepCount, v_house_breakLaw_steps, v_house_breakLaw_stepCount, v_house_waiting, u20_errors)))
  else (j_b18 (s_House_takeOver v_house_things_kind v_house_things_m v_house_things_cell v_house_things_broken v_house_things_fell v_house_things_count v_house_things_taken v_house_tape v_house_walls v_house_hour v_house_z v_house_tapeLength v_house_waits v_house_pullLaw_steps v_house_pullLaw_stepCount v_house_breakLaw_steps v_house_breakLaw_stepCount v_house_waiting v_imageOfHouse_things_kind v_imageOfHouse_things_m v_imageOfHouse_things_cell v_imageOfHouse_things_broken v_imageOfHouse_things_fell v_imageOfHouse_things_count v_imageOfHouse_things_taken v_imageOfHouse_tape v_imageOfHouse_walls v_imageOfHouse_hour v_imageOfHouse_z v_imageOfHouse_tapeLength v_imageOfHouse_waits v_imageOfHouse_pullLaw_steps v_imageOfHouse_pullLaw_stepCount v_imageOfHouse_breakLaw_steps v_imageOfHouse_breakLaw_stepCount v_imageOfHouse_waiting) (fun u1_kind u2_m u3_cell u4_broken u5_fell u6_count u7_taken u8_tape u9_walls u10_hour u11_z u12_tapeLength u13_waits u14_steps u15_stepCount u16_steps u17_stepCount u18_waiting => some (u10_hour, u1_kind, u2_m, u3_cell, u4_broken, u5_fell, u6_count, u7_taken, u8_tape, u9_walls, u10_hour, u11_z, u12_tapeLength, u13_waits, u14_steps, u15_stepCount, u16_steps, u17_stepCount, u18_waiting, v_errors)))

def s_X_tell (p1 : Int32) (v_house_waits : Int32) (v_house_waiting : Nat → Int32) (v_errors : Nat → Int32) : Option (Int32 × Int32 × (Nat → Int32) × (Nat → Int32)) :=
  if v_house_waits < (24 : Int32) then (j_b2 (s_House_addWaiting p1 v_house_waits v_house_waiting) (fun u1_waits u2_waiting => some (u1_waits, u1_waits, u2_waiting, v_errors)))
  else (j_b2 (s_X_error (4 : Int32) v_errors) (fun r3 u4_errors => some (r3, v_house_waits, v_house_waiting, u4_errors)))

def s_X_check (v_house_things_cell : Nat → Int32) (v_house_things_count : Int32) (v_house_waits : Int32) (v_house_waiting : Nat → Int32) : Option (Int32 × Int32) :=
  j_b1 (s_House_firstWaitingWrong v_house_things_cell v_house_things_count v_house_waits v_house_waiting) (fun r1 => if 0 ≤ r1 then (some (((1 : Int32) + r1), (0 : Int32)))
  else (some ((0 : Int32), (0 : Int32))))

def s_Lng_bitCount (p0 : Int64) : Option (Int32) :=
  j_let ((((p0 - ((j_lushr p0 (1 : Int32)) &&& (6148914691236517205 : Int64))) &&& (3689348814741910323 : Int64)) + ((j_lushr (p0 - ((j_lushr p0 (1 : Int32)) &&& (6148914691236517205 : Int64))) (2 : Int32)) &&& (3689348814741910323 : Int64)))) (fun x0_23 => j_let (((x0_23 + (j_lushr x0_23 (4 : Int32))) &&& (1085102592571150095 : Int64))) (fun x0_33 => j_let (((x0_33 + (j_lushr x0_33 (8 : Int32))) + (j_lushr (x0_33 + (j_lushr x0_33 (8 : Int32))) (16 : Int32)))) (fun x0_47 => some (((j_l2i (x0_47 + (j_lushr x0_47 (32 : Int32)))) &&& (127 : Int32))))))

def s_X_count (p1 : Int32) (v_house_things_broken : Nat → Int32) (v_house_things_count : Int32) (v_house_walls : Int64) (v_house_hour : Int32) (v_house_z : Int32) (v_house_tapeLength : Int32) (v_house_waits : Int32) (v_house_pullLaw_steps : Nat → Int32) (v_house_pullLaw_stack : Nat → Int32) (v_house_pullLaw_stepCount : Int32) (v_voices_traced : Int32) (v_errors : Nat → Int32) : Option (Int32 × (Nat → Int32) × (Nat → Int32)) :=
  if p1 = (0 : Int32) then (some (v_house_things_count, v_house_pullLaw_stack, v_errors))
  else if p1 = (1 : Int32) then (some (v_house_hour, v_house_pullLaw_stack, v_errors))
  else if p1 = (2 : Int32) then (j_b1 (s_Things_brokenCount v_house_things_broken v_house_things_count) (fun r1 => some (r1, v_house_pullLaw_stack, v_errors)))
  else if p1 = (3 : Int32) then (j_b1 (s_Lng_bitCount v_house_walls) (fun r2 => some (r2, v_house_pullLaw_stack, v_errors)))
  else if p1 = (4 : Int32) then (j_b2 (s_House_pullAt v_house_hour v_house_things_count v_house_pullLaw_steps v_house_pullLaw_stack v_house_pullLaw_stepCount) (fun r3 u4_stack => some (r3, u4_stack, v_errors)))
  else if p1 = (5 : Int32) then (some (v_house_tapeLength, v_house_pullLaw_stack, v_errors))
  else if p1 = (6 : Int32) then (some (v_house_waits, v_house_pullLaw_stack, v_errors))
  else if p1 = (7 : Int32) then (some (v_voices_traced, v_house_pullLaw_stack, v_errors))
  else if p1 = (8 : Int32) then (some (v_house_z, v_house_pullLaw_stack, v_errors))
  else (j_b2 (s_X_error (1 : Int32) v_errors) (fun r5 u6_errors => some (r5, v_house_pullLaw_stack, u6_errors)))

def s_X_told_c11 (v_errors : Nat → Int32) : Option (Int32 × (Nat → Int32)) :=
  j_b2 (s_X_error (1 : Int32) v_errors) (fun r1 u2_errors => some (r1, u2_errors))

def s_X_told (p1 : Int32) (v_errors : Nat → Int32) : Option (Int32 × (Nat → Int32)) :=
  if p1 < (1 : Int32) then (s_X_told_c11 v_errors)
  else (if p1 ≤ (6 : Int32) then (j_chk p1 7 (some ((v_errors p1.toNatClampNeg), v_errors)))
  else (s_X_told_c11 v_errors))

def s_M_error (p1 : Int32) (v_errors : Nat → Int32) : Option (Int32 × (Nat → Int32)) :=
  j_chk (((-1000000000 : Int32) - p1)) 7 (j_chk (((-1000000000 : Int32) - p1)) 7 (some (p1, (upd v_errors ((-1000000000 : Int32) - p1).toNatClampNeg ((v_errors ((-1000000000 : Int32) - p1).toNatClampNeg) + (1 : Int32))))))

def s_M_in (p0 : Int32) (p1 : Int32) (p2 : Int32) : Option (Int32) :=
  if p0 < p1 then (some ((0 : Int32)))
  else (if p2 < p0 then (some ((0 : Int32)))
  else (some ((1 : Int32))))

def s_M_copyAll_c2 (w0 : Nat → Int32) : Nat → Int32 → (Nat → Int32) → (Option ((Nat → Int32)))
  | 0, _, _ => none
  | n + 1, x2, w1 =>
  if (397 : Int32) ≤ x2 then (some (w1))
  else (j_chk x2 397 (j_chk x2 397 (s_M_copyAll_c2 w0 n (x2 + (1 : Int32)) (upd w1 x2.toNatClampNeg (w0 x2.toNatClampNeg)))))

def s_M_copyAll (w0 : Nat → Int32) (w1 : Nat → Int32) : Option ((Nat → Int32)) :=
  s_M_copyAll_c2 w0 400 (0 : Int32) w1

def s_M_isCell (p0 : Int32) : Option (Int32) :=
  j_b1 (s_M_in p0 (0 : Int32) (35 : Int32)) (fun r1 => j_bz r1 (some (r1)))

def s_M_isThing (p1 : Int32) (v_row : Nat → Int32) : Option (Int32) :=
  j_b1 (s_M_in p1 (0 : Int32) ((v_row (2 : Int32).toNatClampNeg) - (1 : Int32))) (fun r1 => j_bz r1 (some (r1)))

def s_M_becomes (p1 : Int32) (p2 : Int32) (v_row : Nat → Int32) : Option (Int32 × (Nat → Int32)) :=
  j_chk p1 397 (j_chk p1 397 (some ((v_row p1.toNatClampNeg), (upd v_row p1.toNatClampNeg p2))))

def s_M_of (p1 : Int32) (p2 : Int32) (v_row : Nat → Int32) : Option (Int32) :=
  j_chk ((((41 : Int32) + ((5 : Int32) * p1)) + p2)) 397 (some ((v_row (((41 : Int32) + ((5 : Int32) * p1)) + p2).toNatClampNeg)))

def s_M_lay (p1 : Int32) (p2 : Int32) (p3 : Int32) (v_row : Nat → Int32) : Option ((Nat → Int32)) :=
  j_chk ((((41 : Int32) + ((5 : Int32) * p1)) + p2)) 397 (some ((upd v_row (((41 : Int32) + ((5 : Int32) * p1)) + p2).toNatClampNeg p3)))

def s_M_isWall (p1 : Int32) (v_row : Nat → Int32) : Option (Int32) :=
  j_chk (((5 : Int32) + p1)) 397 (if (v_row ((5 : Int32) + p1).toNatClampNeg) = (1 : Int32) then (some ((1 : Int32)))
  else (some ((0 : Int32))))

def s_M_inCell_c2 (x1 : Int32) (v_row : Nat → Int32) : Nat → Int32 → Option (Int32)
  | 0, _ => none
  | n + 1, x2 =>
  if (v_row (2 : Int32).toNatClampNeg) ≤ x2 then (some ((-1 : Int32)))
  else (j_b1 (s_M_of x2 (2 : Int32) v_row) (fun r1 => if r1 = x1 then (some (x2))
  else (s_M_inCell_c2 x1 v_row n (x2 + (1 : Int32)))))

def s_M_inCell (p1 : Int32) (v_row : Nat → Int32) : Option (Int32) :=
  s_M_inCell_c2 p1 v_row 400 (0 : Int32)

def s_M_isFree (p1 : Int32) (v_row : Nat → Int32) : Option (Int32) :=
  j_b1 (s_M_isWall p1 v_row) (fun r1 => if r1 = 0 then (j_b1 (s_M_inCell p1 v_row) (fun r2 => if 0 ≤ r2 then (some ((0 : Int32)))
  else (some ((1 : Int32)))))
  else (some ((0 : Int32))))

def s_M_nextTo (p0 : Int32) (p1 : Int32) : Option (Int32) :=
  if p1 = (0 : Int32) then (if (36 : Int32) ≤ (p0 + (6 : Int32)) then (some ((-1 : Int32)))
  else (some ((p0 + (6 : Int32)))))
  else if p1 = (1 : Int32) then (if (p0 - p0 / (6 : Int32) * (6 : Int32)) ≤ 0 then (some ((-1 : Int32)))
  else (some ((p0 - (1 : Int32)))))
  else if p1 = (2 : Int32) then (if p0 < (6 : Int32) then (some ((-1 : Int32)))
  else (some ((p0 - (6 : Int32)))))
  else (if (5 : Int32) ≤ (p0 - p0 / (6 : Int32) * (6 : Int32)) then (some ((-1 : Int32)))
  else (some ((p0 + (1 : Int32)))))

def s_M_wall_c16 (v_row : Nat → Int32) (v_errors : Nat → Int32) : Option (Int32 × (Nat → Int32) × (Nat → Int32)) :=
  j_b2 (s_M_error (-1000000001 : Int32) v_errors) (fun r2 u3_errors => some (r2, v_row, u3_errors))

def s_M_wall_c45 (x1 : Int32) (x2 : Int32) (v_row : Nat → Int32) (v_errors : Nat → Int32) : Option (Int32 × (Nat → Int32) × (Nat → Int32)) :=
  j_b2 (s_M_becomes ((5 : Int32) + x1) x2 v_row) (fun r5 u6_row => some (r5, u6_row, v_errors))

def s_M_wall (p1 : Int32) (p2 : Int32) (v_row : Nat → Int32) (v_errors : Nat → Int32) : Option (Int32 × (Nat → Int32) × (Nat → Int32)) :=
  j_b1 (s_M_isCell p1) (fun r1 => if r1 = 0 then (s_M_wall_c16 v_row v_errors)
  else (j_b1 (s_M_in p2 (0 : Int32) (1 : Int32)) (fun r4 => if r4 = 0 then (s_M_wall_c16 v_row v_errors)
  else (if p2 = (1 : Int32) then (j_b1 (s_M_inCell p1 v_row) (fun r7 => if r7 < 0 then (s_M_wall_c45 p1 p2 v_row v_errors)
  else (j_b2 (s_M_error (-1000000003 : Int32) v_errors) (fun r8 u9_errors => some (r8, v_row, u9_errors)))))
  else (s_M_wall_c45 p1 p2 v_row v_errors)))))

def s_M_cellIs_c16 (v_errors : Nat → Int32) : Option (Int32 × (Nat → Int32)) :=
  j_b2 (s_M_error (-1000000001 : Int32) v_errors) (fun r2 u3_errors => some (r2, u3_errors))

def s_M_cellIs (p1 : Int32) (p2 : Int32) (v_row : Nat → Int32) (v_errors : Nat → Int32) : Option (Int32 × (Nat → Int32)) :=
  j_b1 (s_M_isCell p1) (fun r1 => if r1 = 0 then (s_M_cellIs_c16 v_errors)
  else (j_b1 (s_M_in p2 (0 : Int32) (1 : Int32)) (fun r4 => if r4 = 0 then (s_M_cellIs_c16 v_errors)
  else (if p2 = 0 then (j_chk (((5 : Int32) + p1)) 397 (some ((v_row ((5 : Int32) + p1).toNatClampNeg), v_errors)))
  else (j_b1 (s_M_inCell p1 v_row) (fun r5 => some (r5, v_errors)))))))

def s_M_isKm (p0 : Int32) : Option (Int32) :=
  j_b1 (s_M_in p0 (0 : Int32) (69 : Int32)) (fun r1 => j_bz r1 (some (r1)))

def s_M_thing_c14 (v_row : Nat → Int32) (v_errors : Nat → Int32) : Option (Int32 × (Nat → Int32) × (Nat → Int32)) :=
  j_b2 (s_M_error (-1000000001 : Int32) v_errors) (fun r2 u3_errors => some (r2, v_row, u3_errors))

def s_M_thing (p1 : Int32) (p2 : Int32) (v_row : Nat → Int32) (v_errors : Nat → Int32) : Option (Int32 × (Nat → Int32) × (Nat → Int32)) :=
  j_b1 (s_M_isKm p1) (fun r1 => if r1 = 0 then (s_M_thing_c14 v_row v_errors)
  else (j_b1 (s_M_isCell p2) (fun r4 => if r4 = 0 then (s_M_thing_c14 v_row v_errors)
  else (if (v_row (2 : Int32).toNatClampNeg) = (6 : Int32) then (j_b2 (s_M_error (-1000000004 : Int32) v_errors) (fun r13 u14_errors => some (r13, v_row, u14_errors)))
  else (j_b1 (s_M_isFree p2 v_row) (fun r5 => if r5 = 0 then (j_b2 (s_M_error (-1000000003 : Int32) v_errors) (fun r11 u12_errors => some (r11, v_row, u12_errors)))
  else (j_b1 (s_M_lay (v_row (2 : Int32).toNatClampNeg) (0 : Int32) (p1 / (10 : Int32)) (upd v_row (2 : Int32).toNatClampNeg ((v_row (2 : Int32).toNatClampNeg) + (1 : Int32)))) (fun u6_row => j_b1 (s_M_lay (v_row (2 : Int32).toNatClampNeg) (1 : Int32) (p1 - p1 / (10 : Int32) * (10 : Int32)) u6_row) (fun u7_row => j_b1 (s_M_lay (v_row (2 : Int32).toNatClampNeg) (2 : Int32) p2 u7_row) (fun u8_row => j_b1 (s_M_lay (v_row (2 : Int32).toNatClampNeg) (3 : Int32) (0 : Int32) u8_row) (fun u9_row => j_b1 (s_M_lay (v_row (2 : Int32).toNatClampNeg) (4 : Int32) (0 : Int32) u9_row) (fun u10_row => some ((v_row (2 : Int32).toNatClampNeg), u10_row, v_errors)))))))))))))

def s_M_thingIs_c26 (v_errors : Nat → Int32) : Option (Int32 × (Nat → Int32)) :=
  j_b2 (s_M_error (-1000000001 : Int32) v_errors) (fun r2 u3_errors => some (r2, u3_errors))

def s_M_thingIs (p1 : Int32) (p2 : Int32) (v_row : Nat → Int32) (v_errors : Nat → Int32) : Option (Int32 × (Nat → Int32)) :=
  j_b1 (s_M_isThing p1 v_row) (fun r1 => if r1 = 0 then (s_M_thingIs_c26 v_errors)
  else (j_b1 (s_M_in p2 (0 : Int32) (4 : Int32)) (fun r4 => if r4 = 0 then (s_M_thingIs_c26 v_errors)
  else (j_b1 (s_M_of p1 p2 v_row) (fun r5 => some (r5, v_errors))))))

def s_M_become_c15 (v_row : Nat → Int32) (v_errors : Nat → Int32) : Option (Int32 × (Nat → Int32) × (Nat → Int32)) :=
  j_b2 (s_M_error (-1000000001 : Int32) v_errors) (fun r2 u3_errors => some (r2, v_row, u3_errors))

def s_M_become (p1 : Int32) (p2 : Int32) (v_row : Nat → Int32) (v_errors : Nat → Int32) : Option (Int32 × (Nat → Int32) × (Nat → Int32)) :=
  j_b1 (s_M_isThing p1 v_row) (fun r1 => if r1 = 0 then (s_M_become_c15 v_row v_errors)
  else (j_b1 (s_M_isKm p2) (fun r4 => if r4 = 0 then (s_M_become_c15 v_row v_errors)
  else (j_b1 (s_M_lay p1 (1 : Int32) (p2 - p2 / (10 : Int32) * (10 : Int32)) v_row) (fun u5_row => j_b2 (s_M_becomes ((41 : Int32) + ((5 : Int32) * p1)) (p2 / (10 : Int32)) u5_row) (fun r6 u7_row => some (r6, u7_row, v_errors)))))))

def s_M_as_c18 (v_errors : Nat → Int32) : Option (Int32 × (Nat → Int32)) :=
  j_b2 (s_M_error (-1000000001 : Int32) v_errors) (fun r2 u3_errors => some (r2, u3_errors))

def s_M_as_c66 (x1 : Int32) (v_row : Nat → Int32) (v_errors : Nat → Int32) (k0 : Int32) : Option (Int32 × (Nat → Int32)) :=
  if k0 = 0 then (j_b2 (s_M_error (-1000000005 : Int32) v_errors) (fun r6 u7_errors => some (r6, u7_errors)))
  else (j_b1 (s_M_of x1 (1 : Int32) v_row) (fun r8 => some (r8, v_errors)))

def s_M_as_c61 (x1 : Int32) (v_row : Nat → Int32) (v_errors : Nat → Int32) : Option (Int32 × (Nat → Int32)) :=
  s_M_as_c66 x1 v_row v_errors (1 : Int32)

def s_M_as_c65 (x1 : Int32) (v_row : Nat → Int32) (v_errors : Nat → Int32) : Option (Int32 × (Nat → Int32)) :=
  s_M_as_c66 x1 v_row v_errors (0 : Int32)

def s_M_as_c51 (x1 : Int32) (x2 : Int32) (x3 : Int32) (v_row : Nat → Int32) (v_errors : Nat → Int32) : Option (Int32 × (Nat → Int32)) :=
  if x2 = (2 : Int32) then (if x3 = (5 : Int32) then (s_M_as_c61 x1 v_row v_errors)
  else (s_M_as_c65 x1 v_row v_errors))
  else (s_M_as_c65 x1 v_row v_errors)

def s_M_as (p1 : Int32) (p2 : Int32) (v_row : Nat → Int32) (v_errors : Nat → Int32) : Option (Int32 × (Nat → Int32)) :=
  j_b1 (s_M_isThing p1 v_row) (fun r1 => if r1 = 0 then (s_M_as_c18 v_errors)
  else (j_b1 (s_M_in p2 (0 : Int32) (6 : Int32)) (fun r4 => if r4 = 0 then (s_M_as_c18 v_errors)
  else (j_b1 (s_M_of p1 (0 : Int32) v_row) (fun r5 => if p2 = 0 then (s_M_as_c61 p1 v_row v_errors)
  else (if p2 = r5 then (s_M_as_c61 p1 v_row v_errors)
  else (if p2 = (1 : Int32) then (if r5 = (4 : Int32) then (s_M_as_c61 p1 v_row v_errors)
  else (s_M_as_c51 p1 p2 r5 v_row v_errors))
  else (s_M_as_c51 p1 p2 r5 v_row v_errors))))))))

def s_M_carry_c15 (v_row : Nat → Int32) (v_errors : Nat → Int32) : Option (Int32 × (Nat → Int32) × (Nat → Int32)) :=
  j_b2 (s_M_error (-1000000001 : Int32) v_errors) (fun r2 u3_errors => some (r2, v_row, u3_errors))

def s_M_carry_c45 (x1 : Int32) (x2 : Int32) (v_row : Nat → Int32) (v_errors : Nat → Int32) (k0 : Int32) : Option (Int32 × (Nat → Int32) × (Nat → Int32)) :=
  if k0 = 0 then (j_b2 (s_M_error (-1000000003 : Int32) v_errors) (fun r6 u7_errors => some (r6, v_row, u7_errors)))
  else (j_b2 (s_M_becomes (((41 : Int32) + ((5 : Int32) * x1)) + (2 : Int32)) x2 v_row) (fun r8 u9_row => some (r8, u9_row, v_errors)))

def s_M_carry_c40 (x1 : Int32) (x2 : Int32) (v_row : Nat → Int32) (v_errors : Nat → Int32) : Option (Int32 × (Nat → Int32) × (Nat → Int32)) :=
  s_M_carry_c45 x1 x2 v_row v_errors (1 : Int32)

def s_M_carry (p1 : Int32) (p2 : Int32) (v_row : Nat → Int32) (v_errors : Nat → Int32) : Option (Int32 × (Nat → Int32) × (Nat → Int32)) :=
  j_b1 (s_M_isThing p1 v_row) (fun r1 => if r1 = 0 then (s_M_carry_c15 v_row v_errors)
  else (j_b1 (s_M_isCell p2) (fun r4 => if r4 = 0 then (s_M_carry_c15 v_row v_errors)
  else (j_b1 (s_M_of p1 (2 : Int32) v_row) (fun r5 => if r5 = p2 then (s_M_carry_c40 p1 p2 v_row v_errors)
  else (j_b1 (s_M_isFree p2 v_row) (fun r10 => if r10 = 0 then (s_M_carry_c45 p1 p2 v_row v_errors (0 : Int32))
  else (s_M_carry_c40 p1 p2 v_row v_errors))))))))

def s_M_clock (p1 : Int32) (v_row : Nat → Int32) (v_errors : Nat → Int32) : Option (Int32 × (Nat → Int32) × (Nat → Int32)) :=
  j_b1 (s_M_in p1 (0 : Int32) (9999 : Int32)) (fun r1 => if r1 = 0 then (j_b2 (s_M_error (-1000000001 : Int32) v_errors) (fun r2 u3_errors => some (r2, v_row, u3_errors)))
  else (j_b2 (s_M_becomes (0 : Int32) p1 v_row) (fun r4 u5_row => some (r4, u5_row, v_errors))))

def s_M_feed_c40 (x1 : Int64) (x3 : Int32) (v_errors : Nat → Int32) : Nat → Int32 → (Nat → Int32) → (Option (Int32 × (Nat → Int32) × (Nat → Int32)))
  | 0, _, _ => none
  | n + 1, x4, v_row =>
  if x3 ≤ x4 then (some ((v_row (3 : Int32).toNatClampNeg), v_row, v_errors))
  else (j_chk (((71 : Int32) + (v_row (3 : Int32).toNatClampNeg))) 397 (s_M_feed_c40 x1 x3 v_errors n (x4 + (1 : Int32)) (upd (upd v_row ((71 : Int32) + (v_row (3 : Int32).toNatClampNeg)).toNatClampNeg (j_l2i ((j_lshr x1 ((8 : Int32) * x4)) &&& (255 : Int64)))) (3 : Int32).toNatClampNeg (((upd v_row ((71 : Int32) + (v_row (3 : Int32).toNatClampNeg)).toNatClampNeg (j_l2i ((j_lshr x1 ((8 : Int32) * x4)) &&& (255 : Int64)))) (3 : Int32).toNatClampNeg) + (1 : Int32)))))

def s_M_feed (p1 : Int64) (p3 : Int32) (v_row : Nat → Int32) (v_errors : Nat → Int32) : Option (Int32 × (Nat → Int32) × (Nat → Int32)) :=
  j_b1 (s_M_in p3 (1 : Int32) (8 : Int32)) (fun r1 => if r1 = 0 then (j_b2 (s_M_error (-1000000001 : Int32) v_errors) (fun r4 u5_errors => some (r4, v_row, u5_errors)))
  else (if ((v_row (3 : Int32).toNatClampNeg) + p3) ≤ (60 : Int32) then (s_M_feed_c40 p1 p3 v_errors 400 (0 : Int32) v_row)
  else (j_b2 (s_M_error (-1000000004 : Int32) v_errors) (fun r2 u3_errors => some (r2, v_row, u3_errors)))))

def s_M_look (v_row : Nat → Int32) (v_here : Int32) : Option (Int32) :=
  if (v_row (3 : Int32).toNatClampNeg) ≤ v_here then (some ((-1 : Int32)))
  else (j_chk (((71 : Int32) + v_here)) 397 (some ((v_row ((71 : Int32) + v_here).toNatClampNeg))))

def s_M_step (p1 : Int32) (p2 : Int32) (v_act : Nat → Int32) (v_with : Nat → Int32) (v_laid : Int32) : Option ((Nat → Int32) × (Nat → Int32) × Int32) :=
  if (60 : Int32) ≤ v_laid then (some (v_act, v_with, v_laid))
  else (j_chk v_laid 60 (j_chk v_laid 60 (some ((upd v_act v_laid.toNatClampNeg p1), (upd v_with v_laid.toNatClampNeg p2), (v_laid + (1 : Int32))))))

def s_M_nameOf_c60 (x1 : Int32) (v_using : Int32) : Option (Int32) :=
  if v_using = 0 then (if x1 = (104 : Int32) then (some ((0 : Int32)))
  else (if x1 = (100 : Int32) then (some ((1 : Int32)))
  else (some ((2 : Int32)))))
  else (some ((-1 : Int32)))

def s_M_nameOf_c93 (x1 : Int32) (v_using : Int32) : Option (Int32) :=
  if v_using = (1 : Int32) then (if x1 = (102 : Int32) then (some ((0 : Int32)))
  else (if x1 = (109 : Int32) then (some ((1 : Int32)))
  else (some ((2 : Int32)))))
  else (some ((-1 : Int32)))

def s_M_nameOf (p1 : Int32) (v_using : Int32) : Option (Int32) :=
  if p1 = (100 : Int32) then (s_M_nameOf_c60 p1 v_using)
  else if p1 = (102 : Int32) then (s_M_nameOf_c93 p1 v_using)
  else if p1 = (104 : Int32) then (s_M_nameOf_c60 p1 v_using)
  else if p1 = (107 : Int32) then (s_M_nameOf_c93 p1 v_using)
  else if p1 = (109 : Int32) then (s_M_nameOf_c93 p1 v_using)
  else if p1 = (110 : Int32) then (s_M_nameOf_c60 p1 v_using)
  else (some ((-1 : Int32)))

def s_M_number_c62 (x1 : Int32) (v_act : Nat → Int32) (v_with : Nat → Int32) (v_laid : Int32) (v_here : Int32) (k1 : Int32) : Option ((Nat → Int32) × (Nat → Int32) × Int32 × Int32 × Int32) :=
  j_bz k1 (j_b3 (s_M_step (1 : Int32) x1 v_act v_with v_laid) (fun u1_act u2_with u3_laid => some (u1_act, u2_with, u3_laid, v_here, k1)))

def s_M_number_c52 (x1 : Int32) (x2 : Int32) (v_act : Nat → Int32) (v_with : Nat → Int32) (v_laid : Int32) (v_here : Int32) : Option ((Nat → Int32) × (Nat → Int32) × Int32 × Int32 × Int32) :=
  if x2 = 0 then (s_M_number_c62 x1 v_act v_with v_laid v_here (1 : Int32))
  else (s_M_number_c62 x1 v_act v_with v_laid v_here (0 : Int32))

def s_M_number_c4 (v_row : Nat → Int32) (v_act : Nat → Int32) (v_with : Nat → Int32) (v_laid : Int32) : Nat → Int32 → Int32 → Int32 → (Option ((Nat → Int32) × (Nat → Int32) × Int32 × Int32 × Int32))
  | 0, _, _, _ => none
  | n + 1, x1, x2, v_here =>
  if (4 : Int32) ≤ x2 then (s_M_number_c52 x1 x2 v_act v_with v_laid v_here)
  else (j_b1 (s_M_look v_row v_here) (fun r4 => j_b1 (s_M_in r4 (48 : Int32) (57 : Int32)) (fun r5 => if r5 = 0 then (s_M_number_c52 x1 x2 v_act v_with v_laid v_here)
  else (j_b1 (s_M_look v_row v_here) (fun r6 => s_M_number_c4 v_row v_act v_with v_laid n ((((10 : Int32) * x1) + r6) - (48 : Int32)) (x2 + (1 : Int32)) (v_here + (1 : Int32)))))))

def s_M_number (v_row : Nat → Int32) (v_act : Nat → Int32) (v_with : Nat → Int32) (v_laid : Int32) (v_here : Int32) (v_bad : Int32) : Option ((Nat → Int32) × (Nat → Int32) × Int32 × Int32 × Int32) :=
  s_M_number_c4 v_row v_act v_with v_laid 400 (0 : Int32) (0 : Int32) v_here

def s_M_opens_c103 (v_act : Nat → Int32) (v_with : Nat → Int32) (v_laid : Int32) (v_here : Int32) (v_opened : Int32) (v_bad : Int32) : Option ((Nat → Int32) × (Nat → Int32) × Int32 × Int32 × Int32 × Int32) :=
  some (v_act, v_with, v_laid, v_here, (v_opened - (1 : Int32)), v_bad)

def s_M_opens_c99 (v_act : Nat → Int32) (v_with : Nat → Int32) (v_laid : Int32) (v_opened : Int32) (v_bad : Int32) (k1 : Int32) (k2 : Int32) : Option ((Nat → Int32) × (Nat → Int32) × Int32 × Int32 × Int32 × Int32) :=
  s_M_opens_c103 v_act v_with v_laid (k1 + k2) v_opened v_bad

def s_M_opens_c79 (v_act : Nat → Int32) (v_with : Nat → Int32) (v_laid : Int32) (v_here : Int32) (v_opened : Int32) (k1 : Int32) : Option ((Nat → Int32) × (Nat → Int32) × Int32 × Int32 × Int32 × Int32) :=
  j_bz k1 (if k1 = 0 then (s_M_opens_c99 v_act v_with v_laid v_opened k1 v_here (1 : Int32))
  else (s_M_opens_c99 v_act v_with v_laid v_opened k1 v_here (0 : Int32)))

def s_M_opens_c74 (v_act : Nat → Int32) (v_with : Nat → Int32) (v_laid : Int32) (v_here : Int32) (v_opened : Int32) : Option ((Nat → Int32) × (Nat → Int32) × Int32 × Int32 × Int32 × Int32) :=
  s_M_opens_c79 v_act v_with v_laid v_here v_opened (1 : Int32)

def so_M_opens (g_M_opens : Int32 → (Nat → Int32) → (Nat → Int32) → (Nat → Int32) → Int32 → Int32 → Int32 → Int32 → Int32 → (Option ((Nat → Int32) × (Nat → Int32) × Int32 × Int32 × Int32 × Int32))) (g_M_one : (Nat → Int32) → (Nat → Int32) → (Nat → Int32) → Int32 → Int32 → Int32 → Int32 → Int32 → (Option ((Nat → Int32) × (Nat → Int32) × Int32 × Int32 × Int32 × Int32))) (g_M_times : (Nat → Int32) → (Nat → Int32) → (Nat → Int32) → Int32 → Int32 → Int32 → Int32 → Int32 → (Option ((Nat → Int32) × (Nat → Int32) × Int32 × Int32 × Int32 × Int32))) (g_M_sum : (Nat → Int32) → (Nat → Int32) → (Nat → Int32) → Int32 → Int32 → Int32 → Int32 → Int32 → (Option ((Nat → Int32) × (Nat → Int32) × Int32 × Int32 × Int32 × Int32))) (g_M_compares : (Nat → Int32) → (Nat → Int32) → (Nat → Int32) → Int32 → Int32 → Int32 → Int32 → Int32 → (Option ((Nat → Int32) × (Nat → Int32) × Int32 × Int32 × Int32 × Int32))) (g_M_all : (Nat → Int32) → (Nat → Int32) → (Nat → Int32) → Int32 → Int32 → Int32 → Int32 → Int32 → (Option ((Nat → Int32) × (Nat → Int32) × Int32 × Int32 × Int32 × Int32))) (g_M_any : (Nat → Int32) → (Nat → Int32) → (Nat → Int32) → Int32 → Int32 → Int32 → Int32 → Int32 → (Option ((Nat → Int32) × (Nat → Int32) × Int32 × Int32 × Int32 × Int32))) (p1 : Int32) (v_row : Nat → Int32) (v_act : Nat → Int32) (v_with : Nat → Int32) (v_laid : Int32) (v_here : Int32) (v_opened : Int32) (v_bad : Int32) (v_using : Int32) : Option ((Nat → Int32) × (Nat → Int32) × Int32 × Int32 × Int32 × Int32) :=
  if v_opened = (5 : Int32) then (some (v_act, v_with, v_laid, v_here, v_opened, (1 : Int32)))
  else (if p1 = (33 : Int32) then (j_b6 (g_M_one v_row v_act v_with v_laid (v_here + (1 : Int32)) (v_opened + (1 : Int32)) v_bad v_using) (fun u8_act u9_with u10_laid u11_here u12_opened u13_bad => j_b3 (s_M_step (3 : Int32) (0 : Int32) u8_act u9_with u10_laid) (fun u14_act u15_with u16_laid => s_M_opens_c103 u14_act u15_with u16_laid u11_here u12_opened u13_bad)))
  else (j_b6 (g_M_any v_row v_act v_with v_laid (v_here + (1 : Int32)) (v_opened + (1 : Int32)) v_bad v_using) (fun u1_act u2_with u3_laid u4_here u5_opened u6_bad => if u6_bad = 0 then (j_b1 (s_M_look v_row u4_here) (fun r7 => if r7 = (41 : Int32) then (s_M_opens_c79 u1_act u2_with u3_laid u4_here u5_opened (0 : Int32))
  else (s_M_opens_c74 u1_act u2_with u3_laid u4_here u5_opened)))
  else (s_M_opens_c74 u1_act u2_with u3_laid u4_here u5_opened))))

def s_M_one_c46 (g_M_opens : Int32 → (Nat → Int32) → (Nat → Int32) → (Nat → Int32) → Int32 → Int32 → Int32 → Int32 → Int32 → (Option ((Nat → Int32) × (Nat → Int32) × Int32 × Int32 × Int32 × Int32))) (x1 : Int32) (v_row : Nat → Int32) (v_act : Nat → Int32) (v_with : Nat → Int32) (v_laid : Int32) (v_here : Int32) (v_opened : Int32) (v_bad : Int32) (v_using : Int32) : Option ((Nat → Int32) × (Nat → Int32) × Int32 × Int32 × Int32 × Int32) :=
  j_b6 (g_M_opens x1 v_row v_act v_with v_laid v_here v_opened v_bad v_using) (fun u3_act u4_with u5_laid u6_here u7_opened u8_bad => some (u3_act, u4_with, u5_laid, u6_here, u7_opened, u8_bad))

def so_M_one (g_M_opens : Int32 → (Nat → Int32) → (Nat → Int32) → (Nat → Int32) → Int32 → Int32 → Int32 → Int32 → Int32 → (Option ((Nat → Int32) × (Nat → Int32) × Int32 × Int32 × Int32 × Int32))) (g_M_one : (Nat → Int32) → (Nat → Int32) → (Nat → Int32) → Int32 → Int32 → Int32 → Int32 → Int32 → (Option ((Nat → Int32) × (Nat → Int32) × Int32 × Int32 × Int32 × Int32))) (g_M_times : (Nat → Int32) → (Nat → Int32) → (Nat → Int32) → Int32 → Int32 → Int32 → Int32 → Int32 → (Option ((Nat → Int32) × (Nat → Int32) × Int32 × Int32 × Int32 × Int32))) (g_M_sum : (Nat → Int32) → (Nat → Int32) → (Nat → Int32) → Int32 → Int32 → Int32 → Int32 → Int32 → (Option ((Nat → Int32) × (Nat → Int32) × Int32 × Int32 × Int32 × Int32))) (g_M_compares : (Nat → Int32) → (Nat → Int32) → (Nat → Int32) → Int32 → Int32 → Int32 → Int32 → Int32 → (Option ((Nat → Int32) × (Nat → Int32) × Int32 × Int32 × Int32 × Int32))) (g_M_all : (Nat → Int32) → (Nat → Int32) → (Nat → Int32) → Int32 → Int32 → Int32 → Int32 → Int32 → (Option ((Nat → Int32) × (Nat → Int32) × Int32 × Int32 × Int32 × Int32))) (g_M_any : (Nat → Int32) → (Nat → Int32) → (Nat → Int32) → Int32 → Int32 → Int32 → Int32 → Int32 → (Option ((Nat → Int32) × (Nat → Int32) × Int32 × Int32 × Int32 × Int32))) (v_row : Nat → Int32) (v_act : Nat → Int32) (v_with : Nat → Int32) (v_laid : Int32) (v_here : Int32) (v_opened : Int32) (v_bad : Int32) (v_using : Int32) : Option ((Nat → Int32) × (Nat → Int32) × Int32 × Int32 × Int32 × Int32) :=
  j_b1 (s_M_look v_row v_here) (fun r1 => j_b1 (s_M_nameOf r1 v_using) (fun r2 => if r2 < 0 then (if r1 = (33 : Int32) then (s_M_one_c46 g_M_opens r1 v_row v_act v_with v_laid v_here v_opened v_bad v_using)
  else (if r1 = (40 : Int32) then (s_M_one_c46 g_M_opens r1 v_row v_act v_with v_laid v_here v_opened v_bad v_using)
  else (j_b5 (s_M_number v_row v_act v_with v_laid v_here v_bad) (fun u9_act u10_with u11_laid u12_here u13_bad => some (u9_act, u10_with, u11_laid, u12_here, v_opened, u13_bad)))))
  else (j_b3 (s_M_step (2 : Int32) r2 v_act v_with v_laid) (fun u14_act u15_with u16_laid => some (u14_act, u15_with, u16_laid, (v_here + (1 : Int32)), v_opened, v_bad)))))

def s_M_times_c38 (k_4 : (Nat → Int32) → (Nat → Int32) → Int32 → Int32 → Int32 → Int32 → (Option ((Nat → Int32) × (Nat → Int32) × Int32 × Int32 × Int32 × Int32))) (g_M_one : (Nat → Int32) → (Nat → Int32) → (Nat → Int32) → Int32 → Int32 → Int32 → Int32 → Int32 → (Option ((Nat → Int32) × (Nat → Int32) × Int32 × Int32 × Int32 × Int32))) (v_row : Nat → Int32) (v_act : Nat → Int32) (v_with : Nat → Int32) (v_laid : Int32) (v_here : Int32) (v_opened : Int32) (v_bad : Int32) (v_using : Int32) : Option ((Nat → Int32) × (Nat → Int32) × Int32 × Int32 × Int32 × Int32) :=
  j_b1 (s_M_look v_row v_here) (fun r8 => j_b6 (g_M_one v_row v_act v_with v_laid (v_here + (1 : Int32)) v_opened v_bad v_using) (fun u9_act u10_with u11_laid u12_here u13_opened u14_bad => j_b3 (s_M_step r8 (0 : Int32) u9_act u10_with u11_laid) (fun u15_act u16_with u17_laid => k_4 u15_act u16_with u17_laid u12_here u13_opened u14_bad)))

def s_M_times_c4 (g_M_one : (Nat → Int32) → (Nat → Int32) → (Nat → Int32) → Int32 → Int32 → Int32 → Int32 → Int32 → (Option ((Nat → Int32) × (Nat → Int32) × Int32 × Int32 × Int32 × Int32))) (v_row : Nat → Int32) (v_using : Int32) : Nat → (Nat → Int32) → (Nat → Int32) → Int32 → Int32 → Int32 → Int32 → (Option ((Nat → Int32) × (Nat → Int32) × Int32 × Int32 × Int32 × Int32))
  | 0, _, _, _, _, _, _ => none
  | n + 1, v_act, v_with, v_laid, v_here, v_opened, v_bad =>
  if v_bad = 0 then (j_b1 (s_M_look v_row v_here) (fun r7 => if r7 = (42 : Int32) then (s_M_times_c38 (s_M_times_c4 g_M_one v_row v_using n) g_M_one v_row v_act v_with v_laid v_here v_opened v_bad v_using)
  else (j_b1 (s_M_look v_row v_here) (fun r18 => if r18 = (47 : Int32) then (s_M_times_c38 (s_M_times_c4 g_M_one v_row v_using n) g_M_one v_row v_act v_with v_laid v_here v_opened v_bad v_using)
  else (j_b1 (s_M_look v_row v_here) (fun r19 => if r19 = (37 : Int32) then (s_M_times_c38 (s_M_times_c4 g_M_one v_row v_using n) g_M_one v_row v_act v_with v_laid v_here v_opened v_bad v_using)
  else (some (v_act, v_with, v_laid, v_here, v_opened, v_bad))))))))
  else (some (v_act, v_with, v_laid, v_here, v_opened, v_bad))

def so_M_times (g_M_opens : Int32 → (Nat → Int32) → (Nat → Int32) → (Nat → Int32) → Int32 → Int32 → Int32 → Int32 → Int32 → (Option ((Nat → Int32) × (Nat → Int32) × Int32 × Int32 × Int32 × Int32))) (g_M_one : (Nat → Int32) → (Nat → Int32) → (Nat → Int32) → Int32 → Int32 → Int32 → Int32 → Int32 → (Option ((Nat → Int32) × (Nat → Int32) × Int32 × Int32 × Int32 × Int32))) (g_M_times : (Nat → Int32) → (Nat → Int32) → (Nat → Int32) → Int32 → Int32 → Int32 → Int32 → Int32 → (Option ((Nat → Int32) × (Nat → Int32) × Int32 × Int32 × Int32 × Int32))) (g_M_sum : (Nat → Int32) → (Nat → Int32) → (Nat → Int32) → Int32 → Int32 → Int32 → Int32 → Int32 → (Option ((Nat → Int32) × (Nat → Int32) × Int32 × Int32 × Int32 × Int32))) (g_M_compares : (Nat → Int32) → (Nat → Int32) → (Nat → Int32) → Int32 → Int32 → Int32 → Int32 → Int32 → (Option ((Nat → Int32) × (Nat → Int32) × Int32 × Int32 × Int32 × Int32))) (g_M_all : (Nat → Int32) → (Nat → Int32) → (Nat → Int32) → Int32 → Int32 → Int32 → Int32 → Int32 → (Option ((Nat → Int32) × (Nat → Int32) × Int32 × Int32 × Int32 × Int32))) (g_M_any : (Nat → Int32) → (Nat → Int32) → (Nat → Int32) → Int32 → Int32 → Int32 → Int32 → Int32 → (Option ((Nat → Int32) × (Nat → Int32) × Int32 × Int32 × Int32 × Int32))) (v_row : Nat → Int32) (v_act : Nat → Int32) (v_with : Nat → Int32) (v_laid : Int32) (v_here : Int32) (v_opened : Int32) (v_bad : Int32) (v_using : Int32) : Option ((Nat → Int32) × (Nat → Int32) × Int32 × Int32 × Int32 × Int32) :=
  j_b6 (g_M_one v_row v_act v_with v_laid v_here v_opened v_bad v_using) (fun u1_act u2_with u3_laid u4_here u5_opened u6_bad => s_M_times_c4 g_M_one v_row v_using 400 u1_act u2_with u3_laid u4_here u5_opened u6_bad)

def s_M_sum_c29 (k_4 : (Nat → Int32) → (Nat → Int32) → Int32 → Int32 → Int32 → Int32 → (Option ((Nat → Int32) × (Nat → Int32) × Int32 × Int32 × Int32 × Int32))) (g_M_times : (Nat → Int32) → (Nat → Int32) → (Nat → Int32) → Int32 → Int32 → Int32 → Int32 → Int32 → (Option ((Nat → Int32) × (Nat → Int32) × Int32 × Int32 × Int32 × Int32))) (v_row : Nat → Int32) (v_act : Nat → Int32) (v_with : Nat → Int32) (v_laid : Int32) (v_here : Int32) (v_opened : Int32) (v_bad : Int32) (v_using : Int32) : Option ((Nat → Int32) × (Nat → Int32) × Int32 × Int32 × Int32 × Int32) :=
  j_b1 (s_M_look v_row v_here) (fun r8 => j_b6 (g_M_times v_row v_act v_with v_laid (v_here + (1 : Int32)) v_opened v_bad v_using) (fun u9_act u10_with u11_laid u12_here u13_opened u14_bad => j_b3 (s_M_step r8 (0 : Int32) u9_act u10_with u11_laid) (fun u15_act u16_with u17_laid => k_4 u15_act u16_with u17_laid u12_here u13_opened u14_bad)))

def s_M_sum_c4 (g_M_times : (Nat → Int32) → (Nat → Int32) → (Nat → Int32) → Int32 → Int32 → Int32 → Int32 → Int32 → (Option ((Nat → Int32) × (Nat → Int32) × Int32 × Int32 × Int32 × Int32))) (v_row : Nat → Int32) (v_using : Int32) : Nat → (Nat → Int32) → (Nat → Int32) → Int32 → Int32 → Int32 → Int32 → (Option ((Nat → Int32) × (Nat → Int32) × Int32 × Int32 × Int32 × Int32))
  | 0, _, _, _, _, _, _ => none
  | n + 1, v_act, v_with, v_laid, v_here, v_opened, v_bad =>
  if v_bad = 0 then (j_b1 (s_M_look v_row v_here) (fun r7 => if r7 = (43 : Int32) then (s_M_sum_c29 (s_M_sum_c4 g_M_times v_row v_using n) g_M_times v_row v_act v_with v_laid v_here v_opened v_bad v_using)
  else (j_b1 (s_M_look v_row v_here) (fun r18 => if r18 = (45 : Int32) then (s_M_sum_c29 (s_M_sum_c4 g_M_times v_row v_using n) g_M_times v_row v_act v_with v_laid v_here v_opened v_bad v_using)
  else (some (v_act, v_with, v_laid, v_here, v_opened, v_bad))))))
  else (some (v_act, v_with, v_laid, v_here, v_opened, v_bad))

def so_M_sum (g_M_opens : Int32 → (Nat → Int32) → (Nat → Int32) → (Nat → Int32) → Int32 → Int32 → Int32 → Int32 → Int32 → (Option ((Nat → Int32) × (Nat → Int32) × Int32 × Int32 × Int32 × Int32))) (g_M_one : (Nat → Int32) → (Nat → Int32) → (Nat → Int32) → Int32 → Int32 → Int32 → Int32 → Int32 → (Option ((Nat → Int32) × (Nat → Int32) × Int32 × Int32 × Int32 × Int32))) (g_M_times : (Nat → Int32) → (Nat → Int32) → (Nat → Int32) → Int32 → Int32 → Int32 → Int32 → Int32 → (Option ((Nat → Int32) × (Nat → Int32) × Int32 × Int32 × Int32 × Int32))) (g_M_sum : (Nat → Int32) → (Nat → Int32) → (Nat → Int32) → Int32 → Int32 → Int32 → Int32 → Int32 → (Option ((Nat → Int32) × (Nat → Int32) × Int32 × Int32 × Int32 × Int32))) (g_M_compares : (Nat → Int32) → (Nat → Int32) → (Nat → Int32) → Int32 → Int32 → Int32 → Int32 → Int32 → (Option ((Nat → Int32) × (Nat → Int32) × Int32 × Int32 × Int32 × Int32))) (g_M_all : (Nat → Int32) → (Nat → Int32) → (Nat → Int32) → Int32 → Int32 → Int32 → Int32 → Int32 → (Option ((Nat → Int32) × (Nat → Int32) × Int32 × Int32 × Int32 × Int32))) (g_M_any : (Nat → Int32) → (Nat → Int32) → (Nat → Int32) → Int32 → Int32 → Int32 → Int32 → Int32 → (Option ((Nat → Int32) × (Nat → Int32) × Int32 × Int32 × Int32 × Int32))) (v_row : Nat → Int32) (v_act : Nat → Int32) (v_with : Nat → Int32) (v_laid : Int32) (v_here : Int32) (v_opened : Int32) (v_bad : Int32) (v_using : Int32) : Option ((Nat → Int32) × (Nat → Int32) × Int32 × Int32 × Int32 × Int32) :=
  j_b6 (g_M_times v_row v_act v_with v_laid v_here v_opened v_bad v_using) (fun u1_act u2_with u3_laid u4_here u5_opened u6_bad => s_M_sum_c4 g_M_times v_row v_using 400 u1_act u2_with u3_laid u4_here u5_opened u6_bad)

def s_M_compares_c34 (g_M_sum : (Nat → Int32) → (Nat → Int32) → (Nat → Int32) → Int32 → Int32 → Int32 → Int32 → Int32 → (Option ((Nat → Int32) × (Nat → Int32) × Int32 × Int32 × Int32 × Int32))) (x1 : Int32) (v_row : Nat → Int32) (v_act : Nat → Int32) (v_with : Nat → Int32) (v_laid : Int32) (v_here : Int32) (v_opened : Int32) (v_bad : Int32) (v_using : Int32) : Option ((Nat → Int32) × (Nat → Int32) × Int32 × Int32 × Int32 × Int32) :=
  j_b6 (g_M_sum v_row v_act v_with v_laid (v_here + (1 : Int32)) v_opened v_bad v_using) (fun u8_act u9_with u10_laid u11_here u12_opened u13_bad => j_b3 (s_M_step x1 (0 : Int32) u8_act u9_with u10_laid) (fun u14_act u15_with u16_laid => some (u14_act, u15_with, u16_laid, u11_here, u12_opened, u13_bad)))

def so_M_compares (g_M_opens : Int32 → (Nat → Int32) → (Nat → Int32) → (Nat → Int32) → Int32 → Int32 → Int32 → Int32 → Int32 → (Option ((Nat → Int32) × (Nat → Int32) × Int32 × Int32 × Int32 × Int32))) (g_M_one : (Nat → Int32) → (Nat → Int32) → (Nat → Int32) → Int32 → Int32 → Int32 → Int32 → Int32 → (Option ((Nat → Int32) × (Nat → Int32) × Int32 × Int32 × Int32 × Int32))) (g_M_times : (Nat → Int32) → (Nat → Int32) → (Nat → Int32) → Int32 → Int32 → Int32 → Int32 → Int32 → (Option ((Nat → Int32) × (Nat → Int32) × Int32 × Int32 × Int32 × Int32))) (g_M_sum : (Nat → Int32) → (Nat → Int32) → (Nat → Int32) → Int32 → Int32 → Int32 → Int32 → Int32 → (Option ((Nat → Int32) × (Nat → Int32) × Int32 × Int32 × Int32 × Int32))) (g_M_compares : (Nat → Int32) → (Nat → Int32) → (Nat → Int32) → Int32 → Int32 → Int32 → Int32 → Int32 → (Option ((Nat → Int32) × (Nat → Int32) × Int32 × Int32 × Int32 × Int32))) (g_M_all : (Nat → Int32) → (Nat → Int32) → (Nat → Int32) → Int32 → Int32 → Int32 → Int32 → Int32 → (Option ((Nat → Int32) × (Nat → Int32) × Int32 × Int32 × Int32 × Int32))) (g_M_any : (Nat → Int32) → (Nat → Int32) → (Nat → Int32) → Int32 → Int32 → Int32 → Int32 → Int32 → (Option ((Nat → Int32) × (Nat → Int32) × Int32 × Int32 × Int32 × Int32))) (v_row : Nat → Int32) (v_act : Nat → Int32) (v_with : Nat → Int32) (v_laid : Int32) (v_here : Int32) (v_opened : Int32) (v_bad : Int32) (v_using : Int32) : Option ((Nat → Int32) × (Nat → Int32) × Int32 × Int32 × Int32 × Int32) :=
  j_b6 (g_M_sum v_row v_act v_with v_laid v_here v_opened v_bad v_using) (fun u1_act u2_with u3_laid u4_here u5_opened u6_bad => j_b1 (s_M_look v_row u4_here) (fun r7 => if u6_bad = 0 then (if r7 = (60 : Int32) then (s_M_compares_c34 g_M_sum r7 v_row u1_act u2_with u3_laid u4_here u5_opened u6_bad v_using)
  else (if r7 = (61 : Int32) then (s_M_compares_c34 g_M_sum r7 v_row u1_act u2_with u3_laid u4_here u5_opened u6_bad v_using)
  else (if r7 = (62 : Int32) then (s_M_compares_c34 g_M_sum r7 v_row u1_act u2_with u3_laid u4_here u5_opened u6_bad v_using)
  else (some (u1_act, u2_with, u3_laid, u4_here, u5_opened, u6_bad)))))
  else (some (u1_act, u2_with, u3_laid, u4_here, u5_opened, u6_bad))))

def s_M_all_c4 (g_M_compares : (Nat → Int32) → (Nat → Int32) → (Nat → Int32) → Int32 → Int32 → Int32 → Int32 → Int32 → (Option ((Nat → Int32) × (Nat → Int32) × Int32 × Int32 × Int32 × Int32))) (v_row : Nat → Int32) (v_using : Int32) : Nat → (Nat → Int32) → (Nat → Int32) → Int32 → Int32 → Int32 → Int32 → (Option ((Nat → Int32) × (Nat → Int32) × Int32 × Int32 × Int32 × Int32))
  | 0, _, _, _, _, _, _ => none
  | n + 1, v_act, v_with, v_laid, v_here, v_opened, v_bad =>
  if v_bad = 0 then (j_b1 (s_M_look v_row v_here) (fun r7 => if r7 = (38 : Int32) then (j_b6 (g_M_compares v_row v_act v_with v_laid (v_here + (1 : Int32)) v_opened v_bad v_using) (fun u8_act u9_with u10_laid u11_here u12_opened u13_bad => j_b3 (s_M_step (38 : Int32) (0 : Int32) u8_act u9_with u10_laid) (fun u14_act u15_with u16_laid => s_M_all_c4 g_M_compares v_row v_using n u14_act u15_with u16_laid u11_here u12_opened u13_bad)))
  else (some (v_act, v_with, v_laid, v_here, v_opened, v_bad))))
  else (some (v_act, v_with, v_laid, v_here, v_opened, v_bad))

def so_M_all (g_M_opens : Int32 → (Nat → Int32) → (Nat → Int32) → (Nat → Int32) → Int32 → Int32 → Int32 → Int32 → Int32 → (Option ((Nat → Int32) × (Nat → Int32) × Int32 × Int32 × Int32 × Int32))) (g_M_one : (Nat → Int32) → (Nat → Int32) → (Nat → Int32) → Int32 → Int32 → Int32 → Int32 → Int32 → (Option ((Nat → Int32) × (Nat → Int32) × Int32 × Int32 × Int32 × Int32))) (g_M_times : (Nat → Int32) → (Nat → Int32) → (Nat → Int32) → Int32 → Int32 → Int32 → Int32 → Int32 → (Option ((Nat → Int32) × (Nat → Int32) × Int32 × Int32 × Int32 × Int32))) (g_M_sum : (Nat → Int32) → (Nat → Int32) → (Nat → Int32) → Int32 → Int32 → Int32 → Int32 → Int32 → (Option ((Nat → Int32) × (Nat → Int32) × Int32 × Int32 × Int32 × Int32))) (g_M_compares : (Nat → Int32) → (Nat → Int32) → (Nat → Int32) → Int32 → Int32 → Int32 → Int32 → Int32 → (Option ((Nat → Int32) × (Nat → Int32) × Int32 × Int32 × Int32 × Int32))) (g_M_all : (Nat → Int32) → (Nat → Int32) → (Nat → Int32) → Int32 → Int32 → Int32 → Int32 → Int32 → (Option ((Nat → Int32) × (Nat → Int32) × Int32 × Int32 × Int32 × Int32))) (g_M_any : (Nat → Int32) → (Nat → Int32) → (Nat → Int32) → Int32 → Int32 → Int32 → Int32 → Int32 → (Option ((Nat → Int32) × (Nat → Int32) × Int32 × Int32 × Int32 × Int32))) (v_row : Nat → Int32) (v_act : Nat → Int32) (v_with : Nat → Int32) (v_laid : Int32) (v_here : Int32) (v_opened : Int32) (v_bad : Int32) (v_using : Int32) : Option ((Nat → Int32) × (Nat → Int32) × Int32 × Int32 × Int32 × Int32) :=
  j_b6 (g_M_compares v_row v_act v_with v_laid v_here v_opened v_bad v_using) (fun u1_act u2_with u3_laid u4_here u5_opened u6_bad => s_M_all_c4 g_M_compares v_row v_using 400 u1_act u2_with u3_laid u4_here u5_opened u6_bad)

def s_M_any_c4 (g_M_all : (Nat → Int32) → (Nat → Int32) → (Nat → Int32) → Int32 → Int32 → Int32 → Int32 → Int32 → (Option ((Nat → Int32) × (Nat → Int32) × Int32 × Int32 × Int32 × Int32))) (v_row : Nat → Int32) (v_using : Int32) : Nat → (Nat → Int32) → (Nat → Int32) → Int32 → Int32 → Int32 → Int32 → (Option ((Nat → Int32) × (Nat → Int32) × Int32 × Int32 × Int32 × Int32))
  | 0, _, _, _, _, _, _ => none
  | n + 1, v_act, v_with, v_laid, v_here, v_opened, v_bad =>
  if v_bad = 0 then (j_b1 (s_M_look v_row v_here) (fun r7 => if r7 = (124 : Int32) then (j_b6 (g_M_all v_row v_act v_with v_laid (v_here + (1 : Int32)) v_opened v_bad v_using) (fun u8_act u9_with u10_laid u11_here u12_opened u13_bad => j_b3 (s_M_step (124 : Int32) (0 : Int32) u8_act u9_with u10_laid) (fun u14_act u15_with u16_laid => s_M_any_c4 g_M_all v_row v_using n u14_act u15_with u16_laid u11_here u12_opened u13_bad)))
  else (some (v_act, v_with, v_laid, v_here, v_opened, v_bad))))
  else (some (v_act, v_with, v_laid, v_here, v_opened, v_bad))

def so_M_any (g_M_opens : Int32 → (Nat → Int32) → (Nat → Int32) → (Nat → Int32) → Int32 → Int32 → Int32 → Int32 → Int32 → (Option ((Nat → Int32) × (Nat → Int32) × Int32 × Int32 × Int32 × Int32))) (g_M_one : (Nat → Int32) → (Nat → Int32) → (Nat → Int32) → Int32 → Int32 → Int32 → Int32 → Int32 → (Option ((Nat → Int32) × (Nat → Int32) × Int32 × Int32 × Int32 × Int32))) (g_M_times : (Nat → Int32) → (Nat → Int32) → (Nat → Int32) → Int32 → Int32 → Int32 → Int32 → Int32 → (Option ((Nat → Int32) × (Nat → Int32) × Int32 × Int32 × Int32 × Int32))) (g_M_sum : (Nat → Int32) → (Nat → Int32) → (Nat → Int32) → Int32 → Int32 → Int32 → Int32 → Int32 → (Option ((Nat → Int32) × (Nat → Int32) × Int32 × Int32 × Int32 × Int32))) (g_M_compares : (Nat → Int32) → (Nat → Int32) → (Nat → Int32) → Int32 → Int32 → Int32 → Int32 → Int32 → (Option ((Nat → Int32) × (Nat → Int32) × Int32 × Int32 × Int32 × Int32))) (g_M_all : (Nat → Int32) → (Nat → Int32) → (Nat → Int32) → Int32 → Int32 → Int32 → Int32 → Int32 → (Option ((Nat → Int32) × (Nat → Int32) × Int32 × Int32 × Int32 × Int32))) (g_M_any : (Nat → Int32) → (Nat → Int32) → (Nat → Int32) → Int32 → Int32 → Int32 → Int32 → Int32 → (Option ((Nat → Int32) × (Nat → Int32) × Int32 × Int32 × Int32 × Int32))) (v_row : Nat → Int32) (v_act : Nat → Int32) (v_with : Nat → Int32) (v_laid : Int32) (v_here : Int32) (v_opened : Int32) (v_bad : Int32) (v_using : Int32) : Option ((Nat → Int32) × (Nat → Int32) × Int32 × Int32 × Int32 × Int32) :=
  j_b6 (g_M_all v_row v_act v_with v_laid v_here v_opened v_bad v_using) (fun u1_act u2_with u3_laid u4_here u5_opened u6_bad => s_M_any_c4 g_M_all v_row v_using 400 u1_act u2_with u3_laid u4_here u5_opened u6_bad)

def sr_M : Nat → (Int32 → (Nat → Int32) → (Nat → Int32) → (Nat → Int32) → Int32 → Int32 → Int32 → Int32 → Int32 → (Option ((Nat → Int32) × (Nat → Int32) × Int32 × Int32 × Int32 × Int32))) × ((Nat → Int32) → (Nat → Int32) → (Nat → Int32) → Int32 → Int32 → Int32 → Int32 → Int32 → (Option ((Nat → Int32) × (Nat → Int32) × Int32 × Int32 × Int32 × Int32))) × ((Nat → Int32) → (Nat → Int32) → (Nat → Int32) → Int32 → Int32 → Int32 → Int32 → Int32 → (Option ((Nat → Int32) × (Nat → Int32) × Int32 × Int32 × Int32 × Int32))) × ((Nat → Int32) → (Nat → Int32) → (Nat → Int32) → Int32 → Int32 → Int32 → Int32 → Int32 → (Option ((Nat → Int32) × (Nat → Int32) × Int32 × Int32 × Int32 × Int32))) × ((Nat → Int32) → (Nat → Int32) → (Nat → Int32) → Int32 → Int32 → Int32 → Int32 → Int32 → (Option ((Nat → Int32) × (Nat → Int32) × Int32 × Int32 × Int32 × Int32))) × ((Nat → Int32) → (Nat → Int32) → (Nat → Int32) → Int32 → Int32 → Int32 → Int32 → Int32 → (Option ((Nat → Int32) × (Nat → Int32) × Int32 × Int32 × Int32 × Int32))) × ((Nat → Int32) → (Nat → Int32) → (Nat → Int32) → Int32 → Int32 → Int32 → Int32 → Int32 → (Option ((Nat → Int32) × (Nat → Int32) × Int32 × Int32 × Int32 × Int32)))
  | 0 => ((fun _ _ _ _ _ _ _ _ _ => none), (fun _ _ _ _ _ _ _ _ => none), (fun _ _ _ _ _ _ _ _ => none), (fun _ _ _ _ _ _ _ _ => none), (fun _ _ _ _ _ _ _ _ => none), (fun _ _ _ _ _ _ _ _ => none), (fun _ _ _ _ _ _ _ _ => none))
  | d + 1 => (so_M_opens ((sr_M d).1) ((sr_M d).2.1) ((sr_M d).2.2.1) ((sr_M d).2.2.2.1) ((sr_M d).2.2.2.2.1) ((sr_M d).2.2.2.2.2.1) ((sr_M d).2.2.2.2.2.2), so_M_one ((sr_M d).1) ((sr_M d).2.1) ((sr_M d).2.2.1) ((sr_M d).2.2.2.1) ((sr_M d).2.2.2.2.1) ((sr_M d).2.2.2.2.2.1) ((sr_M d).2.2.2.2.2.2), so_M_times ((sr_M d).1) ((sr_M d).2.1) ((sr_M d).2.2.1) ((sr_M d).2.2.2.1) ((sr_M d).2.2.2.2.1) ((sr_M d).2.2.2.2.2.1) ((sr_M d).2.2.2.2.2.2), so_M_sum ((sr_M d).1) ((sr_M d).2.1) ((sr_M d).2.2.1) ((sr_M d).2.2.2.1) ((sr_M d).2.2.2.2.1) ((sr_M d).2.2.2.2.2.1) ((sr_M d).2.2.2.2.2.2), so_M_compares ((sr_M d).1) ((sr_M d).2.1) ((sr_M d).2.2.1) ((sr_M d).2.2.2.1) ((sr_M d).2.2.2.2.1) ((sr_M d).2.2.2.2.2.1) ((sr_M d).2.2.2.2.2.2), so_M_all ((sr_M d).1) ((sr_M d).2.1) ((sr_M d).2.2.1) ((sr_M d).2.2.2.1) ((sr_M d).2.2.2.2.1) ((sr_M d).2.2.2.2.2.1) ((sr_M d).2.2.2.2.2.2), so_M_any ((sr_M d).1) ((sr_M d).2.1) ((sr_M d).2.2.1) ((sr_M d).2.2.2.1) ((sr_M d).2.2.2.2.1) ((sr_M d).2.2.2.2.2.1) ((sr_M d).2.2.2.2.2.2))

def s_M_opens (d : Nat) : Int32 → (Nat → Int32) → (Nat → Int32) → (Nat → Int32) → Int32 → Int32 → Int32 → Int32 → Int32 → (Option ((Nat → Int32) × (Nat → Int32) × Int32 × Int32 × Int32 × Int32)) := (sr_M d).1

def s_M_one (d : Nat) : (Nat → Int32) → (Nat → Int32) → (Nat → Int32) → Int32 → Int32 → Int32 → Int32 → Int32 → (Option ((Nat → Int32) × (Nat → Int32) × Int32 × Int32 × Int32 × Int32)) := (sr_M d).2.1

def s_M_times (d : Nat) : (Nat → Int32) → (Nat → Int32) → (Nat → Int32) → Int32 → Int32 → Int32 → Int32 → Int32 → (Option ((Nat → Int32) × (Nat → Int32) × Int32 × Int32 × Int32 × Int32)) := (sr_M d).2.2.1

def s_M_sum (d : Nat) : (Nat → Int32) → (Nat → Int32) → (Nat → Int32) → Int32 → Int32 → Int32 → Int32 → Int32 → (Option ((Nat → Int32) × (Nat → Int32) × Int32 × Int32 × Int32 × Int32)) := (sr_M d).2.2.2.1

def s_M_compares (d : Nat) : (Nat → Int32) → (Nat → Int32) → (Nat → Int32) → Int32 → Int32 → Int32 → Int32 → Int32 → (Option ((Nat → Int32) × (Nat → Int32) × Int32 × Int32 × Int32 × Int32)) := (sr_M d).2.2.2.2.1

def s_M_all (d : Nat) : (Nat → Int32) → (Nat → Int32) → (Nat → Int32) → Int32 → Int32 → Int32 → Int32 → Int32 → (Option ((Nat → Int32) × (Nat → Int32) × Int32 × Int32 × Int32 × Int32)) := (sr_M d).2.2.2.2.2.1

def s_M_any (d : Nat) : (Nat → Int32) → (Nat → Int32) → (Nat → Int32) → Int32 → Int32 → Int32 → Int32 → Int32 → (Option ((Nat → Int32) × (Nat → Int32) × Int32 × Int32 × Int32 × Int32)) := (sr_M d).2.2.2.2.2.2

theorem s_M_opens_succ (d : Nat) : s_M_opens (d + 1) = so_M_opens (s_M_opens d) (s_M_one d) (s_M_times d) (s_M_sum d) (s_M_compares d) (s_M_all d) (s_M_any d) := rfl

theorem s_M_one_succ (d : Nat) : s_M_one (d + 1) = so_M_one (s_M_opens d) (s_M_one d) (s_M_times d) (s_M_sum d) (s_M_compares d) (s_M_all d) (s_M_any d) := rfl

theorem s_M_times_succ (d : Nat) : s_M_times (d + 1) = so_M_times (s_M_opens d) (s_M_one d) (s_M_times d) (s_M_sum d) (s_M_compares d) (s_M_all d) (s_M_any d) := rfl

theorem s_M_sum_succ (d : Nat) : s_M_sum (d + 1) = so_M_sum (s_M_opens d) (s_M_one d) (s_M_times d) (s_M_sum d) (s_M_compares d) (s_M_all d) (s_M_any d) := rfl

theorem s_M_compares_succ (d : Nat) : s_M_compares (d + 1) = so_M_compares (s_M_opens d) (s_M_one d) (s_M_times d) (s_M_sum d) (s_M_compares d) (s_M_all d) (s_M_any d) := rfl

theorem s_M_all_succ (d : Nat) : s_M_all (d + 1) = so_M_all (s_M_opens d) (s_M_one d) (s_M_times d) (s_M_sum d) (s_M_compares d) (s_M_all d) (s_M_any d) := rfl

theorem s_M_any_succ (d : Nat) : s_M_any (d + 1) = so_M_any (s_M_opens d) (s_M_one d) (s_M_times d) (s_M_sum d) (s_M_compares d) (s_M_all d) (s_M_any d) := rfl

def s_M_text_c117 (x2 : Int32) (v_errors : Nat → Int32) (v_act : Nat → Int32) (v_with : Nat → Int32) (v_laid : Int32) (v_here : Int32) (v_opened : Int32) (v_bad : Int32) (v_using : Int32) : Nat → Int32 → (Nat → Int32) → (Option (Int32 × (Nat → Int32) × (Nat → Int32) × (Nat → Int32) × (Nat → Int32) × Int32 × Int32 × Int32 × Int32 × Int32))
  | 0, _, _ => none
  | n + 1, x3, v_row =>
  if v_laid ≤ x3 then (some ((1 : Int32), v_row, v_errors, v_act, v_with, v_laid, v_here, v_opened, v_bad, v_using))
  else (j_chk x3 60 (j_chk (((x2 + (1 : Int32)) + x3)) 397 (j_chk x3 60 (j_chk (((x2 + (61 : Int32)) + x3)) 397 (s_M_text_c117 x2 v_errors v_act v_with v_laid v_here v_opened v_bad v_using n (x3 + (1 : Int32)) (upd (upd v_row ((x2 + (1 : Int32)) + x3).toNatClampNeg (v_act x3.toNatClampNeg)) ((x2 + (61 : Int32)) + x3).toNatClampNeg (v_with x3.toNatClampNeg)))))))

def s_M_text_c71 (x1 : Int32) (v_row : Nat → Int32) (v_errors : Nat → Int32) (v_act : Nat → Int32) (v_with : Nat → Int32) (v_laid : Int32) (v_here : Int32) (v_opened : Int32) (v_using : Int32) (k1 : Int32) : Option (Int32 × (Nat → Int32) × (Nat → Int32) × (Nat → Int32) × (Nat → Int32) × Int32 × Int32 × Int32 × Int32 × Int32) :=
  j_bz k1 (if k1 = 0 then (j_chk (((155 : Int32) + ((121 : Int32) * x1))) 397 (s_M_text_c117 ((155 : Int32) + ((121 : Int32) * x1)) v_errors v_act v_with v_laid v_here v_opened k1 v_using 400 (0 : Int32) (upd (upd v_row (3 : Int32).toNatClampNeg (0 : Int32)) ((155 : Int32) + ((121 : Int32) * x1)).toNatClampNeg v_laid)))
  else (some (((-10 : Int32) - v_here), (upd v_row (3 : Int32).toNatClampNeg (0 : Int32)), v_errors, v_act, v_with, v_laid, v_here, v_opened, k1, v_using)))

def s_M_text_c66 (x1 : Int32) (v_row : Nat → Int32) (v_errors : Nat → Int32) (v_act : Nat → Int32) (v_with : Nat → Int32) (v_laid : Int32) (v_here : Int32) (v_opened : Int32) (v_using : Int32) : Option (Int32 × (Nat → Int32) × (Nat → Int32) × (Nat → Int32) × (Nat → Int32) × Int32 × Int32 × Int32 × Int32 × Int32) :=
  s_M_text_c71 x1 v_row v_errors v_act v_with v_laid v_here v_opened v_using (1 : Int32)

def s_M_text (p1 : Int32) (v_row : Nat → Int32) (v_errors : Nat → Int32) (v_act : Nat → Int32) (v_with : Nat → Int32) (v_laid : Int32) (v_here : Int32) (v_opened : Int32) (v_bad : Int32) (v_using : Int32) : Option (Int32 × (Nat → Int32) × (Nat → Int32) × (Nat → Int32) × (Nat → Int32) × Int32 × Int32 × Int32 × Int32 × Int32) :=
  j_b1 (s_M_in p1 (0 : Int32) (1 : Int32)) (fun r1 => if r1 = 0 then (j_b2 (s_M_error (-1000000001 : Int32) v_errors) (fun r8 u9_errors => some (r8, v_row, u9_errors, v_act, v_with, v_laid, v_here, v_opened, v_bad, v_using)))
  else (j_b6 (s_M_any 60 v_row v_act v_with (0 : Int32) (0 : Int32) (0 : Int32) (0 : Int32) p1) (fun u2_act u3_with u4_laid u5_here u6_opened u7_bad => if u7_bad = 0 then (if (v_row (3 : Int32).toNatClampNeg) ≤ u5_here then (s_M_text_c71 p1 v_row v_errors u2_act u3_with u4_laid u5_here u6_opened p1 (0 : Int32))
  else (s_M_text_c66 p1 v_row v_errors u2_act u3_with u4_laid u5_here u6_opened p1))
  else (s_M_text_c66 p1 v_row v_errors u2_act u3_with u4_laid u5_here u6_opened p1))))

def s_M_untell (p1 : Int32) (v_row : Nat → Int32) (v_errors : Nat → Int32) : Option (Int32 × (Nat → Int32) × (Nat → Int32)) :=
  j_b1 (s_M_in p1 (0 : Int32) (1 : Int32)) (fun r1 => if r1 = 0 then (j_b2 (s_M_error (-1000000001 : Int32) v_errors) (fun r4 u5_errors => some (r4, v_row, u5_errors)))
  else (j_b2 (s_M_becomes ((155 : Int32) + ((121 : Int32) * p1)) (0 : Int32) v_row) (fun r2 u3_row => if r2 ≤ 0 then (some ((0 : Int32), u3_row, v_errors))
  else (some ((1 : Int32), u3_row, v_errors)))))

def s_M_twoOf_c203 (x1 : Int32) (x2 : Int32) : Option (Int32) :=
  if x1 = 0 then (if x2 = 0 then (some ((0 : Int32)))
  else (some ((1 : Int32))))
  else (some ((1 : Int32)))

def s_M_twoOf (p0 : Int32) (p1 : Int32) (p2 : Int32) : Option (Int32) :=
  if p0 = (37 : Int32) then (if p2 = 0 then (some ((0 : Int32)))
  else (j_dv p2 (some ((p1 - p1 / p2 * p2)))))
  else if p0 = (38 : Int32) then (if p1 = 0 then (some ((0 : Int32)))
  else (if p2 = 0 then (some ((0 : Int32)))
  else (some ((1 : Int32)))))
  else if p0 = (42 : Int32) then (some ((p1 * p2)))
  else if p0 = (43 : Int32) then (some ((p1 + p2)))
  else if p0 = (45 : Int32) then (some ((p1 - p2)))
  else if p0 = (47 : Int32) then (if p2 = 0 then (some ((0 : Int32)))
  else (j_dv p2 (some ((p1 / p2)))))
  else if p0 = (60 : Int32) then (if p2 ≤ p1 then (some ((0 : Int32)))
  else (some ((1 : Int32))))
  else if p0 = (61 : Int32) then (if p1 = p2 then (some ((1 : Int32)))
  else (some ((0 : Int32))))
  else if p0 = (62 : Int32) then (if p1 ≤ p2 then (some ((0 : Int32)))
  else (some ((1 : Int32))))
  else (s_M_twoOf_c203 p1 p2)

def s_M_works_c149 (k_4 : Int32 → Int32 → (Nat → Int32) → (Option (Int32 × (Nat → Int32)))) (x3 : Int32) (x2 : Int32) (v_pile : Nat → Int32) : Option (Int32 × (Nat → Int32)) :=
  k_4 x2 (x3 + (1 : Int32)) v_pile

def s_M_works_c79 (k_4 : Int32 → Int32 → (Nat → Int32) → (Option (Int32 × (Nat → Int32)))) (x2 : Int32) (x3 : Int32) (v_pile : Nat → Int32) (k1 : Int32) (k2 : Int32) : Option (Int32 × (Nat → Int32)) :=
  j_chk k1 60 (s_M_works_c149 k_4 x3 (x2 + (1 : Int32)) (upd v_pile k1.toNatClampNeg k2))

def s_M_works_c38 (k_4 : Int32 → Int32 → (Nat → Int32) → (Option (Int32 × (Nat → Int32)))) (x1 : Int32) (x2 : Int32) (x3 : Int32) (x4 : Int32) (v_row : Nat → Int32) (v_facts : Nat → Int32) (v_pile : Nat → Int32) : Option (Int32 × (Nat → Int32)) :=
  if x4 = (1 : Int32) then (j_chk (((x1 + (61 : Int32)) + x3)) 397 (s_M_works_c79 k_4 x2 x3 v_pile x2 (v_row ((x1 + (61 : Int32)) + x3).toNatClampNeg)))
  else (j_chk (((x1 + (61 : Int32)) + x3)) 397 (j_chk ((v_row ((x1 + (61 : Int32)) + x3).toNatClampNeg)) 3 (s_M_works_c79 k_4 x2 x3 v_pile x2 (v_facts (v_row ((x1 + (61 : Int32)) + x3).toNatClampNeg).toNatClampNeg))))

def s_M_works_c115 (k_4 : Int32 → Int32 → (Nat → Int32) → (Option (Int32 × (Nat → Int32)))) (x2 : Int32) (x3 : Int32) (v_pile : Nat → Int32) (k1 : Int32) (k2 : Int32) : Option (Int32 × (Nat → Int32)) :=
  j_chk k1 60 (s_M_works_c149 k_4 x3 x2 (upd v_pile k1.toNatClampNeg k2))

def s_M_works_c4 (x1 : Int32) (v_row : Nat → Int32) (v_facts : Nat → Int32) : Nat → Int32 → Int32 → (Nat → Int32) → (Option (Int32 × (Nat → Int32)))
  | 0, _, _, _ => none
  | n + 1, x2, x3, v_pile =>
  j_chk x1 397 (if (v_row x1.toNatClampNeg) ≤ x3 then (some ((v_pile (0 : Int32).toNatClampNeg), v_pile))
  else (j_chk (((x1 + (1 : Int32)) + x3)) 397 (if (v_row ((x1 + (1 : Int32)) + x3).toNatClampNeg) = (1 : Int32) then (s_M_works_c38 (s_M_works_c4 x1 v_row v_facts n) x1 x2 x3 (v_row ((x1 + (1 : Int32)) + x3).toNatClampNeg) v_row v_facts v_pile)
  else (if (v_row ((x1 + (1 : Int32)) + x3).toNatClampNeg) = (2 : Int32) then (s_M_works_c38 (s_M_works_c4 x1 v_row v_facts n) x1 x2 x3 (v_row ((x1 + (1 : Int32)) + x3).toNatClampNeg) v_row v_facts v_pile)
  else (if (v_row ((x1 + (1 : Int32)) + x3).toNatClampNeg) = (3 : Int32) then (j_chk ((x2 - (1 : Int32))) 60 (if (v_pile (x2 - (1 : Int32)).toNatClampNeg) = 0 then (s_M_works_c115 (s_M_works_c4 x1 v_row v_facts n) x2 x3 v_pile (x2 - (1 : Int32)) (1 : Int32))
  else (s_M_works_c115 (s_M_works_c4 x1 v_row v_facts n) x2 x3 v_pile (x2 - (1 : Int32)) (0 : Int32))))
  else (j_chk (((x2 + (-1 : Int32)) - (1 : Int32))) 60 (j_chk ((x2 + (-1 : Int32))) 60 (j_b1 (s_M_twoOf (v_row ((x1 + (1 : Int32)) + x3).toNatClampNeg) (v_pile ((x2 + (-1 : Int32)) - (1 : Int32)).toNatClampNeg) (v_pile (x2 + (-1 : Int32)).toNatClampNeg)) (fun r1 => j_chk (((x2 + (-1 : Int32)) - (1 : Int32))) 60 (s_M_works_c149 (s_M_works_c4 x1 v_row v_facts n) x3 (x2 + (-1 : Int32)) (upd v_pile ((x2 + (-1 : Int32)) - (1 : Int32)).toNatClampNeg r1)))))))))))

def s_M_works (p1 : Int32) (v_row : Nat → Int32) (v_facts : Nat → Int32) (v_pile : Nat → Int32) : Option (Int32 × (Nat → Int32)) :=
  s_M_works_c4 p1 v_row v_facts 400 (0 : Int32) (0 : Int32) v_pile

def s_M_gives_c71 (x1 : Int32) (v_facts : Nat → Int32) (k0 : Int32) (v_pile : Nat → Int32) : Option (Int32 × (Nat → Int32) × (Nat → Int32)) :=
  if x1 = (1 : Int32) then (if k0 = 0 then (some ((0 : Int32), v_facts, v_pile))
  else (some ((1 : Int32), v_facts, v_pile)))
  else (if 0 ≤ (k0 - k0 / (4 : Int32) * (4 : Int32)) then (some ((k0 - k0 / (4 : Int32) * (4 : Int32)), v_facts, v_pile))
  else (some (((k0 - k0 / (4 : Int32) * (4 : Int32)) + (4 : Int32)), v_facts, v_pile)))

def s_M_gives (p1 : Int32) (p2 : Int32) (p3 : Int32) (p4 : Int32) (v_row : Nat → Int32) (v_facts : Nat → Int32) (v_pile : Nat → Int32) : Option (Int32 × (Nat → Int32) × (Nat → Int32)) :=
  j_chk (((155 : Int32) + ((121 : Int32) * p1))) 397 (if (v_row ((155 : Int32) + ((121 : Int32) * p1)).toNatClampNeg) ≤ 0 then (if p1 = 0 then (s_M_gives_c71 p1 (upd (upd (upd v_facts (0 : Int32).toNatClampNeg p2) (1 : Int32).toNatClampNeg p3) (2 : Int32).toNatClampNeg p4) (p2 / (3 : Int32)) v_pile)
  else (if p2 ≤ (3 : Int32) then (s_M_gives_c71 p1 (upd (upd (upd v_facts (0 : Int32).toNatClampNeg p2) (1 : Int32).toNatClampNeg p3) (2 : Int32).toNatClampNeg p4) (0 : Int32) v_pile)
  else (s_M_gives_c71 p1 (upd (upd (upd v_facts (0 : Int32).toNatClampNeg p2) (1 : Int32).toNatClampNeg p3) (2 : Int32).toNatClampNeg p4) (1 : Int32) v_pile)))
  else (j_b2 (s_M_works ((155 : Int32) + ((121 : Int32) * p1)) v_row (upd (upd (upd v_facts (0 : Int32).toNatClampNeg p2) (1 : Int32).toNatClampNeg p3) (2 : Int32).toNatClampNeg p4) v_pile) (fun r1 u2_pile => s_M_gives_c71 p1 (upd (upd (upd v_facts (0 : Int32).toNatClampNeg p2) (1 : Int32).toNatClampNeg p3) (2 : Int32).toNatClampNeg p4) r1 u2_pile)))

def s_M_law (p1 : Int32) (p2 : Int32) (p3 : Int32) (p4 : Int32) (v_row : Nat → Int32) (v_errors : Nat → Int32) (v_facts : Nat → Int32) (v_pile : Nat → Int32) : Option (Int32 × (Nat → Int32) × (Nat → Int32) × (Nat → Int32)) :=
  j_b1 (s_M_in p1 (0 : Int32) (1 : Int32)) (fun r1 => if r1 = 0 then (j_b2 (s_M_error (-1000000001 : Int32) v_errors) (fun r2 u3_errors => some (r2, u3_errors, v_facts, v_pile)))
  else (j_b3 (s_M_gives p1 p2 p3 p4 v_row v_facts v_pile) (fun r4 u5_facts u6_pile => some (r4, v_errors, u5_facts, u6_pile))))

def s_M_pullOf (p1 : Int32) (v_row : Nat → Int32) (v_facts : Nat → Int32) (v_pile : Nat → Int32) : Option (Int32 × (Nat → Int32) × (Nat → Int32)) :=
  j_b3 (s_M_gives (0 : Int32) p1 (p1 / (12 : Int32)) (v_row (2 : Int32).toNatClampNeg) v_row v_facts v_pile) (fun r1 u2_facts u3_pile => some (r1, u2_facts, u3_pile))

def s_M_slides_c3 (x1 : Int32) (x2 : Int32) (x3 : Int32) : Nat → Int32 → (Nat → Int32) → (Option (Int32 × (Nat → Int32)))
  | 0, _, _ => none
  | n + 1, x4, v_row =>
  if x3 ≤ x4 then (some (x4, v_row))
  else (j_b1 (s_M_of x1 (2 : Int32) v_row) (fun r1 => j_b1 (s_M_nextTo r1 x2) (fun r2 => if r2 < 0 then (some (x4, v_row))
  else (j_b1 (s_M_isFree r2 v_row) (fun r3 => if r3 = 0 then (some (x4, v_row))
  else (j_b1 (s_M_lay x1 (2 : Int32) r2 v_row) (fun u4_row => s_M_slides_c3 x1 x2 x3 n (x4 + (1 : Int32)) u4_row)))))))

def s_M_slides (p1 : Int32) (p2 : Int32) (p3 : Int32) (v_row : Nat → Int32) : Option (Int32 × (Nat → Int32)) :=
  s_M_slides_c3 p1 p2 p3 400 (0 : Int32) v_row

def s_M_rolls (p1 : Int32) (p2 : Int32) (v_row : Nat → Int32) : Option (Int32 × (Nat → Int32)) :=
  j_b2 (s_M_slides p1 p2 (36 : Int32) v_row) (fun r1 u2_row => j_b2 (s_M_slides p1 ((p2 + (1 : Int32)) - (p2 + (1 : Int32)) / (4 : Int32) * (4 : Int32)) (1 : Int32) u2_row) (fun r3 u4_row => some (r1, u4_row)))

def s_M_falls (p1 : Int32) (p2 : Int32) (v_row : Nat → Int32) : Option (Int32 × (Nat → Int32)) :=
  j_b1 (s_M_of p1 (1 : Int32) v_row) (fun r1 => j_b1 (s_M_of p1 (0 : Int32) v_row) (fun r2 => if r2 = (1 : Int32) then (j_b2 (s_M_rolls p1 p2 v_row) (fun r3 u4_row => some (r3, u4_row)))
  else if r2 = (2 : Int32) then (if p2 = (r1 - r1 / (4 : Int32) * (4 : Int32)) then (some ((0 : Int32), v_row))
  else (j_b2 (s_M_slides p1 p2 (36 : Int32) v_row) (fun r5 u6_row => some (r5, u6_row))))
  else if r2 = (3 : Int32) then (j_b2 (s_M_slides p1 p2 (1 : Int32) v_row) (fun r7 u8_row => if r7 = (1 : Int32) then (some ((1 : Int32), u8_row))
  else (j_b2 (s_M_slides p1 ((p2 + (1 : Int32)) - (p2 + (1 : Int32)) / (4 : Int32) * (4 : Int32)) (1 : Int32) u8_row) (fun r9 u10_row => some ((0 : Int32), u10_row)))))
  else if r2 = (4 : Int32) then (j_b2 (s_M_rolls p1 p2 v_row) (fun r11 u12_row => j_b2 (s_M_rolls p1 p2 u12_row) (fun r13 u14_row => if r11 ≤ r13 then (some (r13, u14_row))
  else (some (r11, u14_row)))))
  else if r2 = (5 : Int32) then (if (r1 - r1 / (2 : Int32) * (2 : Int32)) = (1 : Int32) then (some ((0 : Int32), v_row))
  else (if p2 = (r1 - r1 / (4 : Int32) * (4 : Int32)) then (some ((0 : Int32), v_row))
  else (j_b2 (s_M_slides p1 p2 (36 : Int32) v_row) (fun r15 u16_row => some (r15, u16_row)))))
  else if r2 = (6 : Int32) then (j_b2 (s_M_slides p1 ((p2 + (2 : Int32)) - (p2 + (2 : Int32)) / (4 : Int32) * (4 : Int32)) (36 : Int32) v_row) (fun r17 u18_row => some (r17, u18_row)))
  else (j_b2 (s_M_slides p1 p2 (36 : Int32) v_row) (fun r19 u20_row => some (r19, u20_row)))))

def s_M_goes_c71 (k_2 : Int32 → (Nat → Int32) → (Nat → Int32) → (Nat → Int32) → (Option ((Nat → Int32) × (Nat → Int32) × (Nat → Int32)))) (x3 : Int32) (v_facts : Nat → Int32) (v_pile : Nat → Int32) (v_row : Nat → Int32) : Option ((Nat → Int32) × (Nat → Int32) × (Nat → Int32)) :=
  k_2 (x3 + (1 : Int32)) v_row v_facts v_pile

def s_M_goes_c34 (k_2 : Int32 → (Nat → Int32) → (Nat → Int32) → (Nat → Int32) → (Option ((Nat → Int32) × (Nat → Int32) × (Nat → Int32)))) (x3 : Int32) (v_facts : Nat → Int32) (v_pile : Nat → Int32) (k1 : Int32) (k2 : Int32) (k3 : Int32) (v_row : Nat → Int32) : Option ((Nat → Int32) × (Nat → Int32) × (Nat → Int32)) :=
  j_b1 (s_M_lay k1 k2 k3 v_row) (fun u1_row => j_b1 (s_M_of x3 (4 : Int32) u1_row) (fun r2 => j_b1 (s_M_of x3 (1 : Int32) u1_row) (fun r3 => j_b1 (s_M_of x3 (0 : Int32) u1_row) (fun r4 => j_b3 (s_M_gives (1 : Int32) r2 r3 r4 u1_row v_facts v_pile) (fun r5 u6_facts u7_pile => if r5 = (1 : Int32) then (j_b1 (s_M_lay x3 (3 : Int32) (1 : Int32) u1_row) (fun u8_row => s_M_goes_c71 k_2 x3 u6_facts u7_pile u8_row))
  else (s_M_goes_c71 k_2 x3 u6_facts u7_pile u1_row))))))

def s_M_goes_c2 (x1 : Int32) (x2 : Int32) : Nat → Int32 → (Nat → Int32) → (Nat → Int32) → (Nat → Int32) → (Option ((Nat → Int32) × (Nat → Int32) × (Nat → Int32)))
  | 0, _, _, _, _ => none
  | n + 1, x3, v_row, v_facts, v_pile =>
  if (v_row (2 : Int32).toNatClampNeg) ≤ x3 then (some ((upd v_row (0 : Int32).toNatClampNeg ((v_row (0 : Int32).toNatClampNeg) + (1 : Int32))), v_facts, v_pile))
  else (if ((x2 >>> (x3 &&& 31)) &&& (1 : Int32)) = (1 : Int32) then (s_M_goes_c34 (s_M_goes_c2 x1 x2 n) x3 v_facts v_pile x3 (4 : Int32) (0 : Int32) v_row)
  else (j_b2 (s_M_falls x3 x1 v_row) (fun r9 u10_row => s_M_goes_c34 (s_M_goes_c2 x1 x2 n) x3 v_facts v_pile x3 (4 : Int32) r9 u10_row)))

def s_M_goes (p1 : Int32) (p2 : Int32) (v_row : Nat → Int32) (v_facts : Nat → Int32) (v_pile : Nat → Int32) : Option ((Nat → Int32) × (Nat → Int32) × (Nat → Int32)) :=
  s_M_goes_c2 p1 p2 400 (0 : Int32) v_row v_facts v_pile

def s_M_goesOn_c2 (x1 : Int32) : Nat → Int32 → (Nat → Int32) → (Nat → Int32) → (Nat → Int32) → (Option ((Nat → Int32) × (Nat → Int32) × (Nat → Int32)))
  | 0, _, _, _, _ => none
  | n + 1, x2, v_row, v_facts, v_pile =>
  if x1 ≤ x2 then (some (v_row, v_facts, v_pile))
  else (j_b3 (s_M_pullOf (v_row (0 : Int32).toNatClampNeg) v_row v_facts v_pile) (fun r1 u2_facts u3_pile => j_b3 (s_M_goes r1 (0 : Int32) v_row u2_facts u3_pile) (fun u4_row u5_facts u6_pile => s_M_goesOn_c2 x1 n (x2 + (1 : Int32)) u4_row u5_facts u6_pile)))

def s_M_goesOn (p1 : Int32) (v_row : Nat → Int32) (v_facts : Nat → Int32) (v_pile : Nat → Int32) : Option ((Nat → Int32) × (Nat → Int32) × (Nat → Int32)) :=
  s_M_goesOn_c2 p1 400 (0 : Int32) v_row v_facts v_pile

def s_M_broken_c4 (v_row : Nat → Int32) : Nat → Int32 → Int32 → Option (Int32)
  | 0, _, _ => none
  | n + 1, x1, x2 =>
  if (v_row (2 : Int32).toNatClampNeg) ≤ x2 then (some (x1))
  else (j_b1 (s_M_of x2 (3 : Int32) v_row) (fun r1 => s_M_broken_c4 v_row n (x1 + r1) (x2 + (1 : Int32))))

def s_M_broken (v_row : Nat → Int32) : Option (Int32) :=
  s_M_broken_c4 v_row 400 (0 : Int32) (0 : Int32)

def s_M_hours (p1 : Int32) (v_row : Nat → Int32) (v_errors : Nat → Int32) (v_facts : Nat → Int32) (v_pile : Nat → Int32) : Option (Int32 × (Nat → Int32) × (Nat → Int32) × (Nat → Int32) × (Nat → Int32)) :=
  j_b1 (s_M_in p1 (1 : Int32) (100 : Int32)) (fun r1 => if r1 = 0 then (j_b2 (s_M_error (-1000000001 : Int32) v_errors) (fun r8 u9_errors => some (r8, v_row, u9_errors, v_facts, v_pile)))
  else (if ((v_row (0 : Int32).toNatClampNeg) + p1) ≤ (9999 : Int32) then (j_b3 (s_M_goesOn p1 v_row v_facts v_pile) (fun u2_row u3_facts u4_pile => j_b1 (s_M_broken u2_row) (fun r5 => some (r5, u2_row, v_errors, u3_facts, u4_pile))))
  else (j_b2 (s_M_error (-1000000003 : Int32) v_errors) (fun r6 u7_errors => some (r6, v_row, u7_errors, v_facts, v_pile)))))

def s_M_draw (v_row : Nat → Int32) : Option (Int32 × (Nat → Int32)) :=
  some ((j_iushr ((upd v_row (1 : Int32).toNatClampNeg (((v_row (1 : Int32).toNatClampNeg) * (1103515245 : Int32)) + (12345 : Int32))) (1 : Int32).toNatClampNeg) (8 : Int32)), (upd v_row (1 : Int32).toNatClampNeg (((v_row (1 : Int32).toNatClampNeg) * (1103515245 : Int32)) + (12345 : Int32))))

def s_M_shakes_c40 (x1 : Int32) (v_errors : Nat → Int32) : Nat → Int32 → (Nat → Int32) → (Nat → Int32) → (Nat → Int32) → (Option (Int32 × (Nat → Int32) × (Nat → Int32) × (Nat → Int32) × (Nat → Int32)))
  | 0, _, _, _, _ => none
  | n + 1, x2, v_row, v_facts, v_pile =>
  if x1 ≤ x2 then (j_b1 (s_M_broken v_row) (fun r2 => some (r2, v_row, v_errors, v_facts, v_pile)))
  else (j_b2 (s_M_draw v_row) (fun r3 u4_row => j_b3 (s_M_goes (r3 - r3 / (4 : Int32) * (4 : Int32)) (0 : Int32) u4_row v_facts v_pile) (fun u5_row u6_facts u7_pile => s_M_shakes_c40 x1 v_errors n (x2 + (1 : Int32)) u5_row u6_facts u7_pile)))

def s_M_shakes (p1 : Int32) (v_row : Nat → Int32) (v_errors : Nat → Int32) (v_facts : Nat → Int32) (v_pile : Nat → Int32) : Option (Int32 × (Nat → Int32) × (Nat → Int32) × (Nat → Int32) × (Nat → Int32)) :=
  j_b1 (s_M_in p1 (1 : Int32) (40 : Int32)) (fun r1 => if r1 = 0 then (j_b2 (s_M_error (-1000000001 : Int32) v_errors) (fun r10 u11_errors => some (r10, v_row, u11_errors, v_facts, v_pile)))
  else (if ((v_row (0 : Int32).toNatClampNeg) + p1) ≤ (9999 : Int32) then (s_M_shakes_c40 p1 v_errors 400 (0 : Int32) v_row v_facts v_pile)
  else (j_b2 (s_M_error (-1000000003 : Int32) v_errors) (fun r8 u9_errors => some (r8, v_row, u9_errors, v_facts, v_pile)))))

def s_M_seed (p1 : Int32) (v_row : Nat → Int32) : Option (Int32 × (Nat → Int32)) :=
  j_b2 (s_M_becomes (1 : Int32) p1 v_row) (fun r1 u2_row => some (r1, u2_row))

def s_M_pull (p1 : Int32) (v_row : Nat → Int32) (v_errors : Nat → Int32) (v_facts : Nat → Int32) (v_pile : Nat → Int32) : Option (Int32 × (Nat → Int32) × (Nat → Int32) × (Nat → Int32)) :=
  j_b1 (s_M_in p1 (0 : Int32) (9999 : Int32)) (fun r1 => if r1 = 0 then (j_b2 (s_M_error (-1000000001 : Int32) v_errors) (fun r2 u3_errors => some (r2, u3_errors, v_facts, v_pile)))
  else (j_b3 (s_M_pullOf p1 v_row v_facts v_pile) (fun r4 u5_facts u6_pile => some (r4, v_errors, u5_facts, u6_pile))))

def s_M_thinks (v_row : Nat → Int32) (v_before : Nat → Int32) : Option ((Nat → Int32)) :=
  j_b1 (s_M_copyAll v_row v_before) (fun u1_a1 => some (u1_a1))

def s_M_putsBack (v_row : Nat → Int32) (v_before : Nat → Int32) : Option ((Nat → Int32)) :=
  j_b1 (s_M_copyAll v_before v_row) (fun u1_a1 => some (u1_a1))

def s_M_then_c18 (v_row : Nat → Int32) (v_before : Nat → Int32) (v_errors : Nat → Int32) (v_facts : Nat → Int32) (v_pile : Nat → Int32) : Option (Int32 × (Nat → Int32) × (Nat → Int32) × (Nat → Int32) × (Nat → Int32) × (Nat → Int32)) :=
  j_b2 (s_M_error (-1000000001 : Int32) v_errors) (fun r2 u3_errors => some (r2, v_row, v_before, u3_errors, v_facts, v_pile))

def s_M_then (p1 : Int32) (p2 : Int32) (v_row : Nat → Int32) (v_before : Nat → Int32) (v_errors : Nat → Int32) (v_facts : Nat → Int32) (v_pile : Nat → Int32) : Option (Int32 × (Nat → Int32) × (Nat → Int32) × (Nat → Int32) × (Nat → Int32) × (Nat → Int32)) :=
  j_b1 (s_M_isThing p1 v_row) (fun r1 => if r1 = 0 then (s_M_then_c18 v_row v_before v_errors v_facts v_pile)
  else (j_b1 (s_M_in p2 (0 : Int32) (100 : Int32)) (fun r4 => if r4 = 0 then (s_M_then_c18 v_row v_before v_errors v_facts v_pile)
  else (j_b1 (s_M_thinks v_row v_before) (fun u5_before => j_b3 (s_M_goesOn p2 v_row v_facts v_pile) (fun u6_row u7_facts u8_pile => j_b1 (s_M_of p1 (2 : Int32) u6_row) (fun r9 => j_b1 (s_M_putsBack u6_row u5_before) (fun u10_row => some (r9, u10_row, u5_before, v_errors, u7_facts, u8_pile)))))))))

def s_M_when_c15 (v_row : Nat → Int32) (v_before : Nat → Int32) (v_errors : Nat → Int32) (v_facts : Nat → Int32) (v_pile : Nat → Int32) : Option (Int32 × (Nat → Int32) × (Nat → Int32) × (Nat → Int32) × (Nat → Int32) × (Nat → Int32)) :=
  j_b2 (s_M_error (-1000000001 : Int32) v_errors) (fun r2 u3_errors => some (r2, v_row, v_before, u3_errors, v_facts, v_pile))

def s_M_when_c55 (x3 : Int32) (v_row : Nat → Int32) (v_before : Nat → Int32) (v_errors : Nat → Int32) (v_facts : Nat → Int32) (v_pile : Nat → Int32) : Option (Int32 × (Nat → Int32) × (Nat → Int32) × (Nat → Int32) × (Nat → Int32) × (Nat → Int32)) :=
  j_b1 (s_M_putsBack v_row v_before) (fun u6_row => if x3 ≤ (100 : Int32) then (some (x3, u6_row, v_before, v_errors, v_facts, v_pile))
  else (j_b2 (s_M_error (-1000000002 : Int32) v_errors) (fun r7 u8_errors => some (r7, u6_row, v_before, u8_errors, v_facts, v_pile))))

def s_M_when_c28 (x1 : Int32) (x2 : Int32) (v_before : Nat → Int32) (v_errors : Nat → Int32) : Nat → Int32 → (Nat → Int32) → (Nat → Int32) → (Nat → Int32) → (Option (Int32 × (Nat → Int32) × (Nat → Int32) × (Nat → Int32) × (Nat → Int32) × (Nat → Int32)))
  | 0, _, _, _, _ => none
  | n + 1, x3, v_row, v_facts, v_pile =>
  if (100 : Int32) < x3 then (s_M_when_c55 x3 v_row v_before v_errors v_facts v_pile)
  else (j_b1 (s_M_of x1 (2 : Int32) v_row) (fun r9 => if r9 = x2 then (s_M_when_c55 x3 v_row v_before v_errors v_facts v_pile)
  else (j_b3 (s_M_goesOn (1 : Int32) v_row v_facts v_pile) (fun u10_row u11_facts u12_pile => s_M_when_c28 x1 x2 v_before v_errors n (x3 + (1 : Int32)) u10_row u11_facts u12_pile))))

def s_M_when (p1 : Int32) (p2 : Int32) (v_row : Nat → Int32) (v_before : Nat → Int32) (v_errors : Nat → Int32) (v_facts : Nat → Int32) (v_pile : Nat → Int32) : Option (Int32 × (Nat → Int32) × (Nat → Int32) × (Nat → Int32) × (Nat → Int32) × (Nat → Int32)) :=
  j_b1 (s_M_isThing p1 v_row) (fun r1 => if r1 = 0 then (s_M_when_c15 v_row v_before v_errors v_facts v_pile)
  else (j_b1 (s_M_isCell p2) (fun r4 => if r4 = 0 then (s_M_when_c15 v_row v_before v_errors v_facts v_pile)
  else (j_b1 (s_M_thinks v_row v_before) (fun u5_before => s_M_when_c28 p1 p2 u5_before v_errors 400 (0 : Int32) v_row v_facts v_pile)))))

def s_M_farthest_c19 (v_row : Nat → Int32) (v_before : Nat → Int32) (v_errors : Nat → Int32) (v_facts : Nat → Int32) (v_pile : Nat → Int32) : Option (Int32 × (Nat → Int32) × (Nat → Int32) × (Nat → Int32) × (Nat → Int32) × (Nat → Int32)) :=
  j_b2 (s_M_error (-1000000001 : Int32) v_errors) (fun r2 u3_errors => some (r2, v_row, v_before, u3_errors, v_facts, v_pile))

def s_M_farthest_c93 (k_55 : Int32 → Int32 → Int32 → Int32 → (Option (Int32 × (Nat → Int32) × (Nat → Int32) × (Nat → Int32) × (Nat → Int32) × (Nat → Int32)))) (x7 : Int32) (x3 : Int32) (x4 : Int32) (x5 : Int32) : Option (Int32 × (Nat → Int32) × (Nat → Int32) × (Nat → Int32) × (Nat → Int32) × (Nat → Int32)) :=
  k_55 x3 x4 x5 (x7 + (1 : Int32))

def s_M_farthest_c55 (k_41 : Int32 → Int32 → Int32 → Int32 → (Nat → Int32) → (Nat → Int32) → (Nat → Int32) → (Option (Int32 × (Nat → Int32) × (Nat → Int32) × (Nat → Int32) × (Nat → Int32) × (Nat → Int32)))) (x6 : Int32) (v_row : Nat → Int32) (v_facts : Nat → Int32) (v_pile : Nat → Int32) : Nat → Int32 → Int32 → Int32 → Int32 → (Option (Int32 × (Nat → Int32) × (Nat → Int32) × (Nat → Int32) × (Nat → Int32) × (Nat → Int32)))
  | 0, _, _, _, _ => none
  | n + 1, x3, x4, x5, x7 =>
  if (v_row (2 : Int32).toNatClampNeg) ≤ x7 then (k_41 x3 x4 x5 (x6 + (1 : Int32)) v_row v_facts v_pile)
  else (j_b1 (s_M_of x7 (4 : Int32) v_row) (fun r10 => if r10 ≤ x3 then (s_M_farthest_c93 (s_M_farthest_c55 k_41 x6 v_row v_facts v_pile n) x7 x3 x4 x5)
  else (j_b1 (s_M_of x7 (4 : Int32) v_row) (fun r11 => s_M_farthest_c93 (s_M_farthest_c55 k_41 x6 v_row v_facts v_pile n) x7 r11 x7 x6))))

def s_M_farthest_c41 (x1 : Int32) (x2 : Int32) (v_before : Nat → Int32) (v_errors : Nat → Int32) : Nat → Int32 → Int32 → Int32 → Int32 → (Nat → Int32) → (Nat → Int32) → (Nat → Int32) → (Option (Int32 × (Nat → Int32) × (Nat → Int32) × (Nat → Int32) × (Nat → Int32) × (Nat → Int32)))
  | 0, _, _, _, _, _, _, _ => none
  | n + 1, x3, x4, x5, x6, v_row, v_facts, v_pile =>
  if x1 < x6 then (j_b1 (s_M_putsBack v_row v_before) (fun u6_row => if x2 = 0 then (some (x3, u6_row, v_before, v_errors, v_facts, v_pile))
  else (if x2 = (1 : Int32) then (some (x4, u6_row, v_before, v_errors, v_facts, v_pile))
  else (some (x5, u6_row, v_before, v_errors, v_facts, v_pile)))))
  else (j_b3 (s_M_goesOn (1 : Int32) v_row v_facts v_pile) (fun u7_row u8_facts u9_pile => s_M_farthest_c55 (s_M_farthest_c41 x1 x2 v_before v_errors n) x6 u7_row u8_facts u9_pile 400 x3 x4 x5 (0 : Int32)))

def s_M_farthest (p1 : Int32) (p2 : Int32) (v_row : Nat → Int32) (v_before : Nat → Int32) (v_errors : Nat → Int32) (v_facts : Nat → Int32) (v_pile : Nat → Int32) : Option (Int32 × (Nat → Int32) × (Nat → Int32) × (Nat → Int32) × (Nat → Int32) × (Nat → Int32)) :=
  j_b1 (s_M_in p1 (1 : Int32) (60 : Int32)) (fun r1 => if r1 = 0 then (s_M_farthest_c19 v_row v_before v_errors v_facts v_pile)
  else (j_b1 (s_M_in p2 (0 : Int32) (2 : Int32)) (fun r4 => if r4 = 0 then (s_M_farthest_c19 v_row v_before v_errors v_facts v_pile)
  else (j_b1 (s_M_thinks v_row v_before) (fun u5_before => s_M_farthest_c41 p1 p2 u5_before v_errors 400 (0 : Int32) (-1 : Int32) (0 : Int32) (1 : Int32) v_row v_facts v_pile)))))

def s_M_isCalm_c81 (x4 : Int32) (v_row : Nat → Int32) (v_before : Nat → Int32) (v_facts : Nat → Int32) (v_pile : Nat → Int32) : Option (Int32 × (Nat → Int32) × (Nat → Int32) × (Nat → Int32)) :=
  j_b1 (s_M_putsBack v_row v_before) (fun u1_row => j_bz x4 (some (x4, u1_row, v_facts, v_pile)))

def s_M_isCalm_c67 (k_35 : Int32 → Int32 → (Option (Int32 × (Nat → Int32) × (Nat → Int32) × (Nat → Int32)))) (x6 : Int32) (k0 : Int32) : Option (Int32 × (Nat → Int32) × (Nat → Int32) × (Nat → Int32)) :=
  k_35 k0 (x6 + (1 : Int32))

def s_M_isCalm_c66 (k_35 : Int32 → Int32 → (Option (Int32 × (Nat → Int32) × (Nat → Int32) × (Nat → Int32)))) (x6 : Int32) : Option (Int32 × (Nat → Int32) × (Nat → Int32) × (Nat → Int32)) :=
  s_M_isCalm_c67 k_35 x6 (0 : Int32)

def s_M_isCalm_c35 (k_6 : Int32 → Int32 → (Nat → Int32) → (Nat → Int32) → (Nat → Int32) → (Option (Int32 × (Nat → Int32) × (Nat → Int32) × (Nat → Int32)))) (x3 : Int32) (x5 : Int32) (v_row : Nat → Int32) (v_facts : Nat → Int32) (v_pile : Nat → Int32) : Nat → Int32 → Int32 → (Option (Int32 × (Nat → Int32) × (Nat → Int32) × (Nat → Int32)))
  | 0, _, _ => none
  | n + 1, x4, x6 =>
  if (v_row (2 : Int32).toNatClampNeg) ≤ x6 then (k_6 x4 (x5 + (1 : Int32)) v_row v_facts v_pile)
  else (if x4 = 0 then (s_M_isCalm_c66 (s_M_isCalm_c35 k_6 x3 x5 v_row v_facts v_pile n) x6)
  else (j_b1 (s_M_of x6 (4 : Int32) v_row) (fun r8 => if x3 < r8 then (s_M_isCalm_c66 (s_M_isCalm_c35 k_6 x3 x5 v_row v_facts v_pile n) x6)
  else (s_M_isCalm_c67 (s_M_isCalm_c35 k_6 x3 x5 v_row v_facts v_pile n) x6 (1 : Int32)))))

def s_M_isCalm_c6 (x1 : Int32) (x2 : Int32) (x3 : Int32) (v_before : Nat → Int32) : Nat → Int32 → Int32 → (Nat → Int32) → (Nat → Int32) → (Nat → Int32) → (Option (Int32 × (Nat → Int32) × (Nat → Int32) × (Nat → Int32)))
  | 0, _, _, _, _, _ => none
  | n + 1, x4, x5, v_row, v_facts, v_pile =>
  if x2 ≤ x5 then (s_M_isCalm_c81 x4 v_row v_before v_facts v_pile)
  else (if x4 = 0 then (s_M_isCalm_c81 x4 v_row v_before v_facts v_pile)
  else (j_b3 (s_M_pullOf (v_row (0 : Int32).toNatClampNeg) v_row v_facts v_pile) (fun r2 u3_facts u4_pile => j_b3 (s_M_goes r2 x1 v_row u3_facts u4_pile) (fun u5_row u6_facts u7_pile => s_M_isCalm_c35 (s_M_isCalm_c6 x1 x2 x3 v_before n) x3 x5 u5_row u6_facts u7_pile 400 x4 (0 : Int32)))))

def s_M_isCalm (p1 : Int32) (p2 : Int32) (p3 : Int32) (v_row : Nat → Int32) (v_before : Nat → Int32) (v_facts : Nat → Int32) (v_pile : Nat → Int32) : Option (Int32 × (Nat → Int32) × (Nat → Int32) × (Nat → Int32)) :=
  s_M_isCalm_c6 p1 p2 p3 v_before 400 (1 : Int32) (0 : Int32) v_row v_facts v_pile

def s_M_bits_c4 : Nat → Int32 → Int32 → Option (Int32)
  | 0, _, _ => none
  | n + 1, x1, x2 =>
  if x2 = 0 then (some (x1))
  else (s_M_bits_c4 n (x1 + (1 : Int32)) (x2 &&& (x2 - (1 : Int32))))

def s_M_bits (p0 : Int32) : Option (Int32) :=
  s_M_bits_c4 400 (0 : Int32) p0

def s_M_screws_c28 (v_row : Nat → Int32) (v_before : Nat → Int32) (v_errors : Nat → Int32) (v_facts : Nat → Int32) (v_pile : Nat → Int32) : Option (Int32 × (Nat → Int32) × (Nat → Int32) × (Nat → Int32) × (Nat → Int32) × (Nat → Int32)) :=
  j_b2 (s_M_error (-1000000001 : Int32) v_errors) (fun r2 u3_errors => some (r2, v_row, v_before, u3_errors, v_facts, v_pile))

def s_M_screws_c95 (k_54 : Int32 → Int32 → (Nat → Int32) → (Nat → Int32) → (Nat → Int32) → (Option (Int32 × (Nat → Int32) × (Nat → Int32) × (Nat → Int32) × (Nat → Int32) × (Nat → Int32)))) (x5 : Int32) (x4 : Int32) (v_row : Nat → Int32) (v_facts : Nat → Int32) (v_pile : Nat → Int32) : Option (Int32 × (Nat → Int32) × (Nat → Int32) × (Nat → Int32) × (Nat → Int32) × (Nat → Int32)) :=
  k_54 x4 (x5 + (1 : Int32)) v_row v_facts v_pile

def s_M_screws_c54 (x1 : Int32) (x2 : Int32) (x3 : Int32) (v_before : Nat → Int32) (v_errors : Nat → Int32) : Nat → Int32 → Int32 → (Nat → Int32) → (Nat → Int32) → (Nat → Int32) → (Option (Int32 × (Nat → Int32) × (Nat → Int32) × (Nat → Int32) × (Nat → Int32) × (Nat → Int32)))
  | 0, _, _, _, _, _ => none
  | n + 1, x4, x5, v_row, v_facts, v_pile =>
  if ((1 : Int32) <<< ((v_row (2 : Int32).toNatClampNeg) &&& 31)) ≤ x5 then (if x3 = 0 then (j_b1 (s_M_bits x4) (fun r7 => some (r7, v_row, v_before, v_errors, v_facts, v_pile)))
  else (some (x4, v_row, v_before, v_errors, v_facts, v_pile)))
  else (j_b1 (s_M_bits x5) (fun r8 => j_b1 (s_M_bits x4) (fun r9 => if r9 ≤ r8 then (s_M_screws_c95 (s_M_screws_c54 x1 x2 x3 v_before v_errors n) x5 x4 v_row v_facts v_pile)
  else (j_b4 (s_M_isCalm x5 x1 x2 v_row v_before v_facts v_pile) (fun r10 u11_row u12_facts u13_pile => if r10 = 0 then (s_M_screws_c95 (s_M_screws_c54 x1 x2 x3 v_before v_errors n) x5 x4 u11_row u12_facts u13_pile)
  else (s_M_screws_c95 (s_M_screws_c54 x1 x2 x3 v_before v_errors n) x5 x5 u11_row u12_facts u13_pile))))))

def s_M_screws (p1 : Int32) (p2 : Int32) (p3 : Int32) (v_row : Nat → Int32) (v_before : Nat → Int32) (v_errors : Nat → Int32) (v_facts : Nat → Int32) (v_pile : Nat → Int32) : Option (Int32 × (Nat → Int32) × (Nat → Int32) × (Nat → Int32) × (Nat → Int32) × (Nat → Int32)) :=
  j_b1 (s_M_in p1 (1 : Int32) (60 : Int32)) (fun r1 => if r1 = 0 then (s_M_screws_c28 v_row v_before v_errors v_facts v_pile)
  else (j_b1 (s_M_in p2 (0 : Int32) (5 : Int32)) (fun r4 => if r4 = 0 then (s_M_screws_c28 v_row v_before v_errors v_facts v_pile)
  else (j_b1 (s_M_in p3 (0 : Int32) (1 : Int32)) (fun r5 => if r5 = 0 then (s_M_screws_c28 v_row v_before v_errors v_facts v_pile)
  else (j_b1 (s_M_thinks v_row v_before) (fun u6_before => j_let ((((1 : Int32) <<< ((v_row (2 : Int32).toNatClampNeg) &&& 31)) - (1 : Int32))) (fun x4_49 => s_M_screws_c54 p1 p2 p3 u6_before v_errors 400 x4_49 (0 : Int32) v_row v_facts v_pile))))))))

def s_M_landsFrom_c9 (x2 : Int32) (v_row : Nat → Int32) : Nat → Int32 → Int32 → Option (Int32)
  | 0, _, _ => none
  | n + 1, x3, x4 =>
  if x4 < 0 then (some (x3))
  else (j_b1 (s_M_isWall x4 v_row) (fun r2 => if r2 = 0 then (j_b1 (s_M_nextTo x4 x2) (fun r3 => s_M_landsFrom_c9 x2 v_row n x4 r3))
  else (some (x3))))

def s_M_landsFrom (p1 : Int32) (p2 : Int32) (v_row : Nat → Int32) : Option (Int32) :=
  j_b1 (s_M_nextTo p1 p2) (fun r1 => s_M_landsFrom_c9 p2 v_row 400 p1 r1)

def s_M_notRoom (p1 : Int32) (v_row : Nat → Int32) : Option (Int32) :=
  j_b1 (s_M_isCell p1) (fun r1 => if r1 = 0 then (some ((-1000000001 : Int32)))
  else (j_b1 (s_M_isWall p1 v_row) (fun r2 => if r2 = 0 then (some ((0 : Int32)))
  else (some ((-1000000003 : Int32))))))

def s_M_lands_c19 (x1 : Int32) (x2 : Int32) (v_row : Nat → Int32) (v_errors : Nat → Int32) (k0 : Int32) : Option (Int32 × (Nat → Int32)) :=
  if k0 = 0 then (j_b1 (s_M_landsFrom x1 x2 v_row) (fun r2 => some (r2, v_errors)))
  else (j_b2 (s_M_error k0 v_errors) (fun r3 u4_errors => some (r3, u4_errors)))

def s_M_lands (p1 : Int32) (p2 : Int32) (v_row : Nat → Int32) (v_errors : Nat → Int32) : Option (Int32 × (Nat → Int32)) :=
  j_b1 (s_M_in p2 (0 : Int32) (3 : Int32)) (fun r1 => if r1 = 0 then (s_M_lands_c19 p1 p2 v_row v_errors (-1000000001 : Int32))
  else (j_b1 (s_M_notRoom p1 v_row) (fun r5 => s_M_lands_c19 p1 p2 v_row v_errors r5)))

def s_M_sources_c74 (k_37 : Int64 → Int32 → (Option (Int64 × (Nat → Int32)))) (x6 : Int32) (k0 : Int64) (k1 : Int64) : Option (Int64 × (Nat → Int32)) :=
  k_37 (k0 ||| k1) (x6 + (1 : Int32))

def s_M_sources_c73 (k_37 : Int64 → Int32 → (Option (Int64 × (Nat → Int32)))) (x6 : Int32) (k0 : Int64) : Option (Int64 × (Nat → Int32)) :=
  s_M_sources_c74 k_37 x6 k0 (0 : Int64)

def s_M_sources_c37 (x1 : Int32) (x2 : Int32) (v_row : Nat → Int32) (v_errors : Nat → Int32) : Nat → Int64 → Int32 → (Option (Int64 × (Nat → Int32)))
  | 0, _, _ => none
  | n + 1, x4, x6 =>
  if (36 : Int32) ≤ x6 then (some (x4, v_errors))
  else (j_b1 (s_M_isWall x6 v_row) (fun r2 => if r2 = 0 then (j_b1 (s_M_landsFrom x6 x2 v_row) (fun r3 => if r3 = x1 then (s_M_sources_c74 (s_M_sources_c37 x1 x2 v_row v_errors n) x6 x4 (j_lshl (1 : Int64) x6))
  else (s_M_sources_c73 (s_M_sources_c37 x1 x2 v_row v_errors n) x6 x4)))
  else (s_M_sources_c73 (s_M_sources_c37 x1 x2 v_row v_errors n) x6 x4)))

def s_M_sources_c19 (x1 : Int32) (x2 : Int32) (v_row : Nat → Int32) (v_errors : Nat → Int32) (k0 : Int32) : Option (Int64 × (Nat → Int32)) :=
  if k0 = 0 then (s_M_sources_c37 x1 x2 v_row v_errors 400 (0 : Int64) (0 : Int32))
  else (j_b2 (s_M_error k0 v_errors) (fun r4 u5_errors => some ((j_i2l r4), u5_errors)))

def s_M_sources (p1 : Int32) (p2 : Int32) (v_row : Nat → Int32) (v_errors : Nat → Int32) : Option (Int64 × (Nat → Int32)) :=
  j_b1 (s_M_in p2 (0 : Int32) (3 : Int32)) (fun r1 => if r1 = 0 then (s_M_sources_c19 p1 p2 v_row v_errors (-1000000001 : Int32))
  else (j_b1 (s_M_notRoom p1 v_row) (fun r6 => s_M_sources_c19 p1 p2 v_row v_errors r6)))

def s_M_onward_c39 (k_6 : Int64 → Int32 → Option (Int64)) (x6 : Int32) (k0 : Int64) (k1 : Int64) : Option (Int64) :=
  k_6 (k0 ||| k1) (x6 + (1 : Int32))

def s_M_onward_c6 (x1 : Int64) (x3 : Int32) (v_row : Nat → Int32) : Nat → Int64 → Int32 → Option (Int64)
  | 0, _, _ => none
  | n + 1, x4, x6 =>
  if (36 : Int32) ≤ x6 then (some (x4))
  else (if (lg_cmp ((j_lshr x1 x6) &&& (1 : Int64)) (1 : Int64)) = 0 then (j_b1 (s_M_landsFrom x6 x3 v_row) (fun r1 => s_M_onward_c39 (s_M_onward_c6 x1 x3 v_row n) x6 x4 (j_lshl (1 : Int64) r1)))
  else (s_M_onward_c39 (s_M_onward_c6 x1 x3 v_row n) x6 x4 (0 : Int64)))

def s_M_onward (p1 : Int64) (p3 : Int32) (v_row : Nat → Int32) : Option (Int64) :=
  s_M_onward_c6 p1 p3 v_row 400 p1 (0 : Int32)

def s_M_rooms_c40 (x2 : Int32) (v_row : Nat → Int32) (v_errors : Nat → Int32) : Nat → Int64 → Int32 → (Nat → Int32) → (Nat → Int32) → (Option (Int64 × (Nat → Int32) × (Nat → Int32) × (Nat → Int32)))
  | 0, _, _, _, _ => none
  | n + 1, x4, x6, v_facts, v_pile =>
  if x2 ≤ x6 then (some (x4, v_errors, v_facts, v_pile))
  else (j_b3 (s_M_pullOf ((v_row (0 : Int32).toNatClampNeg) + x6) v_row v_facts v_pile) (fun r2 u3_facts u4_pile => j_b1 (s_M_onward x4 r2 v_row) (fun r5 => s_M_rooms_c40 x2 v_row v_errors n r5 (x6 + (1 : Int32)) u3_facts u4_pile)))

def s_M_rooms_c20 (x1 : Int32) (x2 : Int32) (v_row : Nat → Int32) (v_errors : Nat → Int32) (v_facts : Nat → Int32) (v_pile : Nat → Int32) (k0 : Int32) : Option (Int64 × (Nat → Int32) × (Nat → Int32) × (Nat → Int32)) :=
  if k0 = 0 then (s_M_rooms_c40 x2 v_row v_errors 400 (j_lshl (1 : Int64) x1) (0 : Int32) v_facts v_pile)
  else (j_b2 (s_M_error k0 v_errors) (fun r6 u7_errors => some ((j_i2l r6), u7_errors, v_facts, v_pile)))

def s_M_rooms (p1 : Int32) (p2 : Int32) (v_row : Nat → Int32) (v_errors : Nat → Int32) (v_facts : Nat → Int32) (v_pile : Nat → Int32) : Option (Int64 × (Nat → Int32) × (Nat → Int32) × (Nat → Int32)) :=
  j_b1 (s_M_in p2 (0 : Int32) (100 : Int32)) (fun r1 => if r1 = 0 then (s_M_rooms_c20 p1 p2 v_row v_errors v_facts v_pile (-1000000001 : Int32))
  else (j_b1 (s_M_notRoom p1 v_row) (fun r8 => s_M_rooms_c20 p1 p2 v_row v_errors v_facts v_pile r8)))

def s_M_soonestOf_c7 (x2 : Int32) (v_row : Nat → Int32) : Nat → Int64 → Int32 → (Nat → Int32) → (Nat → Int32) → (Option (Int32 × (Nat → Int32) × (Nat → Int32)))
  | 0, _, _, _, _ => none
  | n + 1, x3, x5, v_facts, v_pile =>
  if (100 : Int32) < x5 then (some (x5, v_facts, v_pile))
  else (if (lg_cmp ((j_lshr x3 x2) &&& (1 : Int64)) (0 : Int64)) = 0 then (j_b3 (s_M_pullOf ((v_row (0 : Int32).toNatClampNeg) + x5) v_row v_facts v_pile) (fun r1 u2_facts u3_pile => j_b1 (s_M_onward x3 r1 v_row) (fun r4 => s_M_soonestOf_c7 x2 v_row n r4 (x5 + (1 : Int32)) u2_facts u3_pile)))
  else (some (x5, v_facts, v_pile)))

def s_M_soonestOf (p1 : Int32) (p2 : Int32) (v_row : Nat → Int32) (v_facts : Nat → Int32) (v_pile : Nat → Int32) : Option (Int32 × (Nat → Int32) × (Nat → Int32)) :=
  s_M_soonestOf_c7 p2 v_row 400 (j_lshl (1 : Int64) p1) (0 : Int32) v_facts v_pile

def s_M_soonest_c31 (x1 : Int32) (x2 : Int32) (v_row : Nat → Int32) (v_errors : Nat → Int32) (v_facts : Nat → Int32) (v_pile : Nat → Int32) (k0 : Int32) : Option (Int32 × (Nat → Int32) × (Nat → Int32) × (Nat → Int32)) :=
  if k0 = 0 then (j_b3 (s_M_soonestOf x1 x2 v_row v_facts v_pile) (fun r2 u3_facts u4_pile => if r2 ≤ (100 : Int32) then (some (r2, v_errors, u3_facts, u4_pile))
  else (j_b2 (s_M_error (-1000000002 : Int32) v_errors) (fun r5 u6_errors => some (r5, u6_errors, u3_facts, u4_pile)))))
  else (j_b2 (s_M_error k0 v_errors) (fun r7 u8_errors => some (r7, u8_errors, v_facts, v_pile)))

def s_M_soonest_c17 (x1 : Int32) (x2 : Int32) (v_row : Nat → Int32) (v_errors : Nat → Int32) (v_facts : Nat → Int32) (v_pile : Nat → Int32) (k0 : Int32) : Option (Int32 × (Nat → Int32) × (Nat → Int32) × (Nat → Int32)) :=
  if k0 = 0 then (j_b1 (s_M_notRoom x2 v_row) (fun r9 => s_M_soonest_c31 x1 x2 v_row v_errors v_facts v_pile r9))
  else (s_M_soonest_c31 x1 x2 v_row v_errors v_facts v_pile k0)

def s_M_soonest (p1 : Int32) (p2 : Int32) (v_row : Nat → Int32) (v_errors : Nat → Int32) (v_facts : Nat → Int32) (v_pile : Nat → Int32) : Option (Int32 × (Nat → Int32) × (Nat → Int32) × (Nat → Int32)) :=
  j_b1 (s_M_isCell p2) (fun r1 => if r1 = 0 then (s_M_soonest_c17 p1 p2 v_row v_errors v_facts v_pile (-1000000001 : Int32))
  else (j_b1 (s_M_notRoom p1 v_row) (fun r10 => s_M_soonest_c17 p1 p2 v_row v_errors v_facts v_pile r10)))

def s_M_shut_c59 (k_22 : Int64 → Int32 → (Nat → Int32) → (Nat → Int32) → (Option (Int64 × (Nat → Int32) × (Nat → Int32) × (Nat → Int32)))) (x5 : Int32) (k0 : Int64) (k1 : Int64) (v_facts : Nat → Int32) (v_pile : Nat → Int32) : Option (Int64 × (Nat → Int32) × (Nat → Int32) × (Nat → Int32)) :=
  k_22 (k0 ||| k1) (x5 + (1 : Int32)) v_facts v_pile

def s_M_shut_c58 (k_22 : Int64 → Int32 → (Nat → Int32) → (Nat → Int32) → (Option (Int64 × (Nat → Int32) × (Nat → Int32) × (Nat → Int32)))) (x5 : Int32) (k0 : Int64) (v_facts : Nat → Int32) (v_pile : Nat → Int32) : Option (Int64 × (Nat → Int32) × (Nat → Int32) × (Nat → Int32)) :=
  s_M_shut_c59 k_22 x5 k0 (0 : Int64) v_facts v_pile

def s_M_shut_c22 (x1 : Int32) (v_row : Nat → Int32) (v_errors : Nat → Int32) : Nat → Int64 → Int32 → (Nat → Int32) → (Nat → Int32) → (Option (Int64 × (Nat → Int32) × (Nat → Int32) × (Nat → Int32)))
  | 0, _, _, _, _ => none
  | n + 1, x3, x5, v_facts, v_pile =>
  if (36 : Int32) ≤ x5 then (some (x3, v_errors, v_facts, v_pile))
  else (j_b1 (s_M_isWall x5 v_row) (fun r2 => if r2 = 0 then (j_b3 (s_M_soonestOf x5 x1 v_row v_facts v_pile) (fun r3 u4_facts u5_pile => if r3 ≤ (100 : Int32) then (s_M_shut_c58 (s_M_shut_c22 x1 v_row v_errors n) x5 x3 u4_facts u5_pile)
  else (s_M_shut_c59 (s_M_shut_c22 x1 v_row v_errors n) x5 x3 (j_lshl (1 : Int64) x5) u4_facts u5_pile)))
  else (s_M_shut_c58 (s_M_shut_c22 x1 v_row v_errors n) x5 x3 v_facts v_pile)))

def s_M_shut (p1 : Int32) (v_row : Nat → Int32) (v_errors : Nat → Int32) (v_facts : Nat → Int32) (v_pile : Nat → Int32) : Option (Int64 × (Nat → Int32) × (Nat → Int32) × (Nat → Int32)) :=
  j_b1 (s_M_notRoom p1 v_row) (fun r1 => if r1 = 0 then (s_M_shut_c22 p1 v_row v_errors 400 (0 : Int64) (0 : Int32) v_facts v_pile)
  else (j_b2 (s_M_error r1 v_errors) (fun r6 u7_errors => some ((j_i2l r6), u7_errors, v_facts, v_pile))))

def s_M_isFit_c69 (k_16 : Int32 → Int32 → Int32 → (Nat → Int32) → (Nat → Int32) → (Option (Int32 × (Nat → Int32) × (Nat → Int32)))) (x3 : Int32) (x5 : Int32) (v_facts : Nat → Int32) (v_pile : Nat → Int32) (k0 : Int32) : Option (Int32 × (Nat → Int32) × (Nat → Int32)) :=
  k_16 x3 k0 (x5 + (1 : Int32)) v_facts v_pile

def s_M_isFit_c16 (x1 : Int32) (x2 : Int32) (v_row : Nat → Int32) (v_sizeOf : Nat → Int32) (v_cells : Nat → Int32) : Nat → Int32 → Int32 → Int32 → (Nat → Int32) → (Nat → Int32) → (Option (Int32 × (Nat → Int32) × (Nat → Int32)))
  | 0, _, _, _, _, _ => none
  | n + 1, x3, x4, x5, v_facts, v_pile =>
  j_chk x1 4 (if (v_sizeOf x1.toNatClampNeg) ≤ x5 then (j_bz x4 (some (x4, v_facts, v_pile)))
  else (if x4 = 0 then (j_bz x4 (some (x4, v_facts, v_pile)))
  else (j_b3 (s_M_pullOf ((x2 + x5) - (1 : Int32)) v_row v_facts v_pile) (fun r1 u2_facts u3_pile => j_b1 (s_M_landsFrom x3 r1 v_row) (fun r4 => j_chk ((((24 : Int32) * x1) + x5)) 96 (if r4 = (v_cells (((24 : Int32) * x1) + x5).toNatClampNeg) then (s_M_isFit_c69 (s_M_isFit_c16 x1 x2 v_row v_sizeOf v_cells n) r4 x5 u2_facts u3_pile (1 : Int32))
  else (s_M_isFit_c69 (s_M_isFit_c16 x1 x2 v_row v_sizeOf v_cells n) r4 x5 u2_facts u3_pile (0 : Int32))))))))

def s_M_isFit (p1 : Int32) (p2 : Int32) (v_row : Nat → Int32) (v_facts : Nat → Int32) (v_pile : Nat → Int32) (v_sizeOf : Nat → Int32) (v_cells : Nat → Int32) : Option (Int32 × (Nat → Int32) × (Nat → Int32)) :=
  j_chk (((24 : Int32) * p1)) 96 (s_M_isFit_c16 p1 p2 v_row v_sizeOf v_cells 400 (v_cells ((24 : Int32) * p1).toNatClampNeg) (1 : Int32) (1 : Int32) v_facts v_pile)

def s_M_isSheet (p0 : Int32) : Option (Int32) :=
  j_b1 (s_M_in p0 (0 : Int32) (3 : Int32)) (fun r1 => j_bz r1 (some (r1)))

def s_M_fits_c73 (k_34 : Int32 → Int32 → (Nat → Int32) → (Nat → Int32) → (Option (Int32 × (Nat → Int32) × (Nat → Int32) × (Nat → Int32)))) (x3 : Int32) (v_facts : Nat → Int32) (v_pile : Nat → Int32) (k0 : Int32) (k1 : Int32) : Option (Int32 × (Nat → Int32) × (Nat → Int32) × (Nat → Int32)) :=
  k_34 (k0 ||| k1) (x3 + (1 : Int32)) v_facts v_pile

def s_M_fits_c34 (x1 : Int32) (v_row : Nat → Int32) (v_errors : Nat → Int32) (v_sizeOf : Nat → Int32) (v_cells : Nat → Int32) : Nat → Int32 → Int32 → (Nat → Int32) → (Nat → Int32) → (Option (Int32 × (Nat → Int32) × (Nat → Int32) × (Nat → Int32)))
  | 0, _, _, _, _ => none
  | n + 1, x2, x3, v_facts, v_pile =>
  if (12 : Int32) ≤ x3 then (some (x2, v_errors, v_facts, v_pile))
  else (j_chk (((24 : Int32) * x1)) 96 (j_b1 (s_M_notRoom (v_cells ((24 : Int32) * x1).toNatClampNeg) v_row) (fun r2 => if r2 = 0 then (j_b3 (s_M_isFit x1 x3 v_row v_facts v_pile v_sizeOf v_cells) (fun r3 u4_facts u5_pile => if r3 = 0 then (s_M_fits_c73 (s_M_fits_c34 x1 v_row v_errors v_sizeOf v_cells n) x3 u4_facts u5_pile x2 (0 : Int32))
  else (s_M_fits_c73 (s_M_fits_c34 x1 v_row v_errors v_sizeOf v_cells n) x3 u4_facts u5_pile x2 ((1 : Int32) <<< (x3 &&& 31)))))
  else (some (x2, v_errors, v_facts, v_pile)))))

def s_M_fits (p1 : Int32) (v_row : Nat → Int32) (v_errors : Nat → Int32) (v_facts : Nat → Int32) (v_pile : Nat → Int32) (v_sizeOf : Nat → Int32) (v_cells : Nat → Int32) : Option (Int32 × (Nat → Int32) × (Nat → Int32) × (Nat → Int32)) :=
  j_b1 (s_M_isSheet p1) (fun r1 => if r1 = 0 then (j_b2 (s_M_error (-1000000001 : Int32) v_errors) (fun r8 u9_errors => some (r8, u9_errors, v_facts, v_pile)))
  else (j_chk p1 4 (if (v_sizeOf p1.toNatClampNeg) = 0 then (j_b2 (s_M_error (-1000000002 : Int32) v_errors) (fun r6 u7_errors => some (r6, u7_errors, v_facts, v_pile)))
  else (s_M_fits_c34 p1 v_row v_errors v_sizeOf v_cells 400 (0 : Int32) (0 : Int32) v_facts v_pile))))

def s_M_begins (p1 : Int32) (v_trace : Nat → Int32) (v_traced : Int32) : Option ((Nat → Int32) × Int32) :=
  if (30 : Int32) ≤ v_traced then (some (v_trace, v_traced))
  else (j_chk v_traced 30 (some ((upd v_trace v_traced.toNatClampNeg p1), (v_traced + (1 : Int32)))))

def s_M_plainCreaks (p1 : Int32) (p2 : Int32) (v_trace : Nat → Int32) (v_traced : Int32) : Option (Int32 × (Nat → Int32) × Int32) :=
  j_b2 (s_M_begins (10 : Int32) v_trace v_traced) (fun u1_trace u2_traced => some ((p2 + p1), u1_trace, u2_traced))

def s_M_rollerCreaks (p1 : Int32) (p2 : Int32) (v_trace : Nat → Int32) (v_traced : Int32) : Option (Int32 × (Nat → Int32) × Int32) :=
  j_b2 (s_M_begins (20 : Int32) v_trace v_traced) (fun u1_trace u2_traced => j_b3 (s_M_plainCreaks p1 p2 u1_trace u2_traced) (fun r3 u4_trace u5_traced => some ((r3 - (4 : Int32)), u4_trace, u5_traced)))

def s_M_creaks (p1 : Int32) (p2 : Int32) (v_row : Nat → Int32) (v_trace : Nat → Int32) (v_traced : Int32) : Option (Int32 × (Nat → Int32) × Int32) :=
  j_b1 (s_M_of p1 (0 : Int32) v_row) (fun r1 => if r1 = (1 : Int32) then (j_b3 (s_M_rollerCreaks p1 p2 v_trace v_traced) (fun r2 u3_trace u4_traced => some (r2, u3_trace, u4_traced)))
  else if r1 = (4 : Int32) then (j_b2 (s_M_begins (50 : Int32) v_trace v_traced) (fun u5_trace u6_traced => j_b3 (s_M_rollerCreaks p1 p2 u5_trace u6_traced) (fun r7 u8_trace u9_traced => some ((r7 * (3 : Int32)), u8_trace, u9_traced))))
  else if r1 = (6 : Int32) then (j_b2 (s_M_begins (70 : Int32) v_trace v_traced) (fun u10_trace u11_traced => some ((9 : Int32), u10_trace, u11_traced)))
  else (j_b3 (s_M_plainCreaks p1 p2 v_trace v_traced) (fun r12 u13_trace u14_traced => some (r12, u13_trace, u14_traced))))

def s_M_plainRattles (p1 : Int32) (p2 : Int32) (v_row : Nat → Int32) (v_trace : Nat → Int32) (v_traced : Int32) : Option (Int32 × (Nat → Int32) × Int32) :=
  j_b2 (s_M_begins (11 : Int32) v_trace v_traced) (fun u1_trace u2_traced => j_b3 (s_M_creaks p1 p2 v_row u1_trace u2_traced) (fun r3 u4_trace u5_traced => some ((r3 * (2 : Int32)), u4_trace, u5_traced)))

def s_M_screwedRattles (p1 : Int32) (p2 : Int32) (v_row : Nat → Int32) (v_trace : Nat → Int32) (v_traced : Int32) : Option (Int32 × (Nat → Int32) × Int32) :=
  j_b2 (s_M_begins (30 : Int32) v_trace v_traced) (fun u1_trace u2_traced => j_b3 (s_M_plainRattles p1 p2 v_row u1_trace u2_traced) (fun r3 u4_trace u5_traced => some ((-r3), u4_trace, u5_traced)))

def s_M_rattles_c82 (x1 : Int32) (x2 : Int32) (v_row : Nat → Int32) (v_trace : Nat → Int32) (v_traced : Int32) : Option (Int32 × (Nat → Int32) × Int32) :=
  j_b3 (s_M_plainRattles x1 x2 v_row v_trace v_traced) (fun r2 u3_trace u4_traced => some (r2, u3_trace, u4_traced))

def s_M_rattles (p1 : Int32) (p2 : Int32) (v_row : Nat → Int32) (v_trace : Nat → Int32) (v_traced : Int32) : Option (Int32 × (Nat → Int32) × Int32) :=
  j_b1 (s_M_of p1 (0 : Int32) v_row) (fun r1 => if r1 = (2 : Int32) then (j_b3 (s_M_screwedRattles p1 p2 v_row v_trace v_traced) (fun r5 u6_trace u7_traced => some (r5, u6_trace, u7_traced)))
  else if r1 = (5 : Int32) then (j_b2 (s_M_begins (60 : Int32) v_trace v_traced) (fun u8_trace u9_traced => j_b3 (s_M_screwedRattles p1 (p2 + (1 : Int32)) v_row u8_trace u9_traced) (fun r10 u11_trace u12_traced => some (r10, u11_trace, u12_traced))))
  else if r1 = (6 : Int32) then (j_b2 (s_M_begins (71 : Int32) v_trace v_traced) (fun u13_trace u14_traced => j_b3 (s_M_plainRattles p1 p2 v_row u13_trace u14_traced) (fun r15 u16_trace u17_traced => j_b1 (s_M_of p1 (1 : Int32) v_row) (fun r18 => some ((r15 + r18), u16_trace, u17_traced)))))
  else (s_M_rattles_c82 p1 p2 v_row v_trace v_traced))

def s_M_plainGroans (p1 : Int32) (p2 : Int32) (v_row : Nat → Int32) (v_trace : Nat → Int32) (v_traced : Int32) : Option (Int32 × (Nat → Int32) × Int32) :=
  j_b2 (s_M_begins (12 : Int32) v_trace v_traced) (fun u1_trace u2_traced => j_b3 (s_M_rattles p1 p2 v_row u1_trace u2_traced) (fun r3 u4_trace u5_traced => j_b1 (s_M_of p1 (1 : Int32) v_row) (fun r6 => some ((r3 - r6), u4_trace, u5_traced))))

def s_M_groans (p1 : Int32) (p2 : Int32) (v_row : Nat → Int32) (v_trace : Nat → Int32) (v_traced : Int32) : Option (Int32 × (Nat → Int32) × Int32) :=
  j_b1 (s_M_of p1 (0 : Int32) v_row) (fun r1 => if r1 = (3 : Int32) then (j_b2 (s_M_begins (40 : Int32) v_trace v_traced) (fun u2_trace u3_traced => j_b3 (s_M_plainGroans p1 (p2 / (2 : Int32)) v_row u2_trace u3_traced) (fun r4 u5_trace u6_traced => some (r4, u5_trace, u6_traced))))
  else if r1 = (4 : Int32) then (j_b2 (s_M_begins (51 : Int32) v_trace v_traced) (fun u7_trace u8_traced => j_b3 (s_M_plainGroans p1 p2 v_row u7_trace u8_traced) (fun r9 u10_trace u11_traced => some ((r9 ^^^ p1), u10_trace, u11_traced))))
  else (j_b3 (s_M_plainGroans p1 p2 v_row v_trace v_traced) (fun r12 u13_trace u14_traced => some (r12, u13_trace, u14_traced))))

def s_M_plainParts_c25 (x2 : Int32) (x3 : Int32) (v_trace : Nat → Int32) (v_traced : Int32) (k1 : Int32) : Option (Int32 × (Nat → Int32) × Int32 × Int32) :=
  j_bz k1 (if k1 = 0 then (j_dv x3 (some ((x2 / x3), v_trace, v_traced, k1)))
  else (some ((0 : Int32), v_trace, v_traced, k1)))

def s_M_plainParts (p1 : Int32) (p2 : Int32) (v_row : Nat → Int32) (v_trace : Nat → Int32) (v_traced : Int32) (v_isParted : Int32) : Option (Int32 × (Nat → Int32) × Int32 × Int32) :=
  j_b2 (s_M_begins (13 : Int32) v_trace v_traced) (fun u1_trace u2_traced => j_b1 (s_M_of p1 (1 : Int32) v_row) (fun r3 => if (r3 - p1) = 0 then (s_M_plainParts_c25 p2 (r3 - p1) u1_trace u2_traced (1 : Int32))
  else (s_M_plainParts_c25 p2 (r3 - p1) u1_trace u2_traced (0 : Int32))))

def s_M_parts_c20 (x1 : Int32) (x2 : Int32) (v_row : Nat → Int32) (v_trace : Nat → Int32) (v_traced : Int32) (v_isParted : Int32) : Option (Int32 × (Nat → Int32) × Int32 × Int32) :=
  j_b2 (s_M_begins (21 : Int32) v_trace v_traced) (fun u2_trace u3_traced => j_b4 (s_M_plainParts x1 x2 v_row u2_trace u3_traced v_isParted) (fun r4 u5_trace u6_traced u7_isParted => if u7_isParted = 0 then (j_b3 (s_M_rattles x1 (1 : Int32) v_row u5_trace u6_traced) (fun r8 u9_trace u10_traced => some ((r4 + r8), u9_trace, u10_traced, u7_isParted)))
  else (some ((0 : Int32), u5_trace, u6_traced, u7_isParted))))

def s_M_parts (p1 : Int32) (p2 : Int32) (v_row : Nat → Int32) (v_trace : Nat → Int32) (v_traced : Int32) (v_isParted : Int32) : Option (Int32 × (Nat → Int32) × Int32 × Int32) :=
  j_b1 (s_M_of p1 (0 : Int32) v_row) (fun r1 => if r1 = (1 : Int32) then (s_M_parts_c20 p1 p2 v_row v_trace v_traced v_isParted)
  else (j_b1 (s_M_of p1 (0 : Int32) v_row) (fun r11 => if r11 = (4 : Int32) then (s_M_parts_c20 p1 p2 v_row v_trace v_traced v_isParted)
  else (j_b4 (s_M_plainParts p1 p2 v_row v_trace v_traced v_isParted) (fun r12 u13_trace u14_traced u15_isParted => some (r12, u13_trace, u14_traced, u15_isParted))))))

def s_M_voice_c17 (v_errors : Nat → Int32) (v_trace : Nat → Int32) (v_traced : Int32) (v_isParted : Int32) : Option (Int32 × (Nat → Int32) × (Nat → Int32) × Int32 × Int32) :=
  j_b2 (s_M_error (-1000000001 : Int32) v_errors) (fun r2 u3_errors => some (r2, u3_errors, v_trace, v_traced, v_isParted))

def s_M_voice_c81 (v_errors : Nat → Int32) (k0 : Int32) (v_trace : Nat → Int32) (v_traced : Int32) (v_isParted : Int32) : Option (Int32 × (Nat → Int32) × (Nat → Int32) × Int32 × Int32) :=
  if v_isParted = 0 then (some (k0, v_errors, v_trace, v_traced, v_isParted))
  else (j_b2 (s_M_error (-1000000006 : Int32) v_errors) (fun r5 u6_errors => some (r5, u6_errors, v_trace, v_traced, v_isParted)))

def s_M_voice (p1 : Int32) (p2 : Int32) (p3 : Int32) (v_row : Nat → Int32) (v_errors : Nat → Int32) (v_trace : Nat → Int32) (v_traced : Int32) (v_isParted : Int32) : Option (Int32 × (Nat → Int32) × (Nat → Int32) × Int32 × Int32) :=
  j_b1 (s_M_isThing p1 v_row) (fun r1 => if r1 = 0 then (s_M_voice_c17 v_errors v_trace v_traced v_isParted)
  else (j_b1 (s_M_in p2 (0 : Int32) (3 : Int32)) (fun r4 => if r4 = 0 then (s_M_voice_c17 v_errors v_trace v_traced v_isParted)
  else (if p2 = 0 then (j_b3 (s_M_creaks p1 p3 v_row v_trace (0 : Int32)) (fun r17 u18_trace u19_traced => s_M_voice_c81 v_errors r17 u18_trace u19_traced (0 : Int32)))
  else (if p2 = (1 : Int32) then (j_b3 (s_M_rattles p1 p3 v_row v_trace (0 : Int32)) (fun r14 u15_trace u16_traced => s_M_voice_c81 v_errors r14 u15_trace u16_traced (0 : Int32)))
  else (if p2 = (2 : Int32) then (j_b3 (s_M_groans p1 p3 v_row v_trace (0 : Int32)) (fun r11 u12_trace u13_traced => s_M_voice_c81 v_errors r11 u12_trace u13_traced (0 : Int32)))
  else (j_b4 (s_M_parts p1 p3 v_row v_trace (0 : Int32) (0 : Int32)) (fun r7 u8_trace u9_traced u10_isParted => s_M_voice_c81 v_errors r7 u8_trace u9_traced u10_isParted))))))))

def s_M_body (p1 : Int32) (v_errors : Nat → Int32) (v_trace : Nat → Int32) (v_traced : Int32) : Option (Int32 × (Nat → Int32)) :=
  j_b1 (s_M_in p1 (0 : Int32) (v_traced - (1 : Int32))) (fun r1 => if r1 = 0 then (j_b2 (s_M_error (-1000000002 : Int32) v_errors) (fun r2 u3_errors => some (r2, u3_errors)))
  else (j_chk p1 30 (some ((v_trace p1.toNatClampNeg), v_errors))))

def s_M_sheet_c29 (v_errors : Nat → Int32) (v_bitsOf : Nat → Int32) (v_sizeOf : Nat → Int32) (v_cells : Nat → Int32) : Option (Int32 × (Nat → Int32) × (Nat → Int32) × (Nat → Int32) × (Nat → Int32)) :=
  j_b2 (s_M_error (-1000000001 : Int32) v_errors) (fun r2 u3_errors => some (r2, u3_errors, v_bitsOf, v_sizeOf, v_cells))

def s_M_sheet_c93 (x1 : Int32) (v_errors : Nat → Int32) (v_bitsOf : Nat → Int32) (v_sizeOf : Nat → Int32) : Nat → Int32 → (Nat → Int32) → (Option (Int32 × (Nat → Int32) × (Nat → Int32) × (Nat → Int32) × (Nat → Int32)))
  | 0, _, _ => none
  | n + 1, x4, v_cells =>
  if (24 : Int32) ≤ x4 then (some ((1 : Int32), v_errors, v_bitsOf, v_sizeOf, v_cells))
  else (j_chk ((((24 : Int32) * x1) + x4)) 96 (s_M_sheet_c93 x1 v_errors v_bitsOf v_sizeOf n (x4 + (1 : Int32)) (upd v_cells (((24 : Int32) * x1) + x4).toNatClampNeg (0 : Int32))))

def s_M_sheet_c89 (x1 : Int32) (v_errors : Nat → Int32) (v_bitsOf : Nat → Int32) (v_sizeOf : Nat → Int32) (v_cells : Nat → Int32) (k1 : Int32) (k2 : Int32) : Option (Int32 × (Nat → Int32) × (Nat → Int32) × (Nat → Int32) × (Nat → Int32)) :=
  j_chk k1 4 (s_M_sheet_c93 x1 v_errors v_bitsOf (upd v_sizeOf k1.toNatClampNeg k2) 400 (0 : Int32) v_cells)

def s_M_sheet_c68 (x1 : Int32) (x2 : Int32) (x3 : Int32) (v_errors : Nat → Int32) (v_bitsOf : Nat → Int32) (v_sizeOf : Nat → Int32) (v_cells : Nat → Int32) : Option (Int32 × (Nat → Int32) × (Nat → Int32) × (Nat → Int32) × (Nat → Int32)) :=
  j_chk x1 4 (if x2 = 0 then (s_M_sheet_c89 x1 v_errors (upd v_bitsOf x1.toNatClampNeg x2) v_sizeOf v_cells x1 (0 : Int32))
  else (s_M_sheet_c89 x1 v_errors (upd v_bitsOf x1.toNatClampNeg x2) v_sizeOf v_cells x1 x3))

def s_M_sheet_c51 (x1 : Int32) (x2 : Int32) (x3 : Int32) (v_errors : Nat → Int32) (v_bitsOf : Nat → Int32) (v_sizeOf : Nat → Int32) (v_cells : Nat → Int32) : Option (Int32 × (Nat → Int32) × (Nat → Int32) × (Nat → Int32) × (Nat → Int32)) :=
  if x2 ≤ 0 then (s_M_sheet_c68 x1 x2 x3 v_errors v_bitsOf v_sizeOf v_cells)
  else (if x3 ≤ (24 : Int32) then (s_M_sheet_c68 x1 x2 x3 v_errors v_bitsOf v_sizeOf v_cells)
  else (j_b2 (s_M_error (-1000000001 : Int32) v_errors) (fun r4 u5_errors => some (r4, u5_errors, v_bitsOf, v_sizeOf, v_cells))))

def s_M_sheet_c36 (x1 : Int32) (x2 : Int32) (x3 : Int32) (v_errors : Nat → Int32) (v_bitsOf : Nat → Int32) (v_sizeOf : Nat → Int32) (v_cells : Nat → Int32) : Option (Int32 × (Nat → Int32) × (Nat → Int32) × (Nat → Int32) × (Nat → Int32)) :=
  if x2 ≤ 0 then (s_M_sheet_c51 x1 x2 x3 v_errors v_bitsOf v_sizeOf v_cells)
  else (if 0 ≤ x3 then (s_M_sheet_c51 x1 x2 x3 v_errors v_bitsOf v_sizeOf v_cells)
  else (j_b2 (s_M_error (-1000000003 : Int32) v_errors) (fun r6 u7_errors => some (r6, u7_errors, v_bitsOf, v_sizeOf, v_cells))))

def s_M_sheet (p1 : Int32) (p2 : Int32) (p3 : Int32) (v_errors : Nat → Int32) (v_bitsOf : Nat → Int32) (v_sizeOf : Nat → Int32) (v_cells : Nat → Int32) : Option (Int32 × (Nat → Int32) × (Nat → Int32) × (Nat → Int32) × (Nat → Int32)) :=
  j_b1 (s_M_isSheet p1) (fun r1 => if r1 = 0 then (s_M_sheet_c29 v_errors v_bitsOf v_sizeOf v_cells)
  else (if p2 = 0 then (s_M_sheet_c36 p1 p2 p3 v_errors v_bitsOf v_sizeOf v_cells)
  else (if p2 = (8 : Int32) then (s_M_sheet_c36 p1 p2 p3 v_errors v_bitsOf v_sizeOf v_cells)
  else (if p2 = (16 : Int32) then (s_M_sheet_c36 p1 p2 p3 v_errors v_bitsOf v_sizeOf v_cells)
  else (if p2 = (32 : Int32) then (s_M_sheet_c36 p1 p2 p3 v_errors v_bitsOf v_sizeOf v_cells)
  else (s_M_sheet_c29 v_errors v_bitsOf v_sizeOf v_cells))))))

def s_M_notThere (p1 : Int32) (v_bitsOf : Nat → Int32) : Option (Int32) :=
  j_b1 (s_M_isSheet p1) (fun r1 => if r1 = 0 then (some ((-1000000001 : Int32)))
  else (j_chk p1 4 (if (v_bitsOf p1.toNatClampNeg) = 0 then (some ((-1000000002 : Int32)))
  else (some ((0 : Int32))))))

def s_M_put_c35 (x1 : Int32) (x2 : Int32) (x3 : Int32) (v_errors : Nat → Int32) (v_bitsOf : Nat → Int32) (v_cells : Nat → Int32) (k0 : Int32) : Option (Int32 × (Nat → Int32) × (Nat → Int32)) :=
  if k0 = 0 then (j_chk x1 4 (if (v_bitsOf x1.toNatClampNeg) = (8 : Int32) then (j_chk ((((24 : Int32) * x1) + x2)) 96 (some ((1 : Int32), v_errors, (upd v_cells (((24 : Int32) * x1) + x2).toNatClampNeg (j_i2b x3)))))
  else (j_chk x1 4 (if (v_bitsOf x1.toNatClampNeg) = (16 : Int32) then (j_chk ((((24 : Int32) * x1) + x2)) 96 (some ((1 : Int32), v_errors, (upd v_cells (((24 : Int32) * x1) + x2).toNatClampNeg (j_i2s x3)))))
  else (j_chk ((((24 : Int32) * x1) + x2)) 96 (some ((1 : Int32), v_errors, (upd v_cells (((24 : Int32) * x1) + x2).toNatClampNeg x3))))))))
  else (j_b2 (s_M_error k0 v_errors) (fun r2 u3_errors => some (r2, u3_errors, v_cells)))

def s_M_put_c33 (x1 : Int32) (x2 : Int32) (x3 : Int32) (x4 : Int32) (v_errors : Nat → Int32) (v_bitsOf : Nat → Int32) (v_cells : Nat → Int32) : Option (Int32 × (Nat → Int32) × (Nat → Int32)) :=
  s_M_put_c35 x1 x2 x3 v_errors v_bitsOf v_cells x4

def s_M_put (p1 : Int32) (p2 : Int32) (p3 : Int32) (v_errors : Nat → Int32) (v_bitsOf : Nat → Int32) (v_sizeOf : Nat → Int32) (v_cells : Nat → Int32) : Option (Int32 × (Nat → Int32) × (Nat → Int32)) :=
  j_b1 (s_M_notThere p1 v_bitsOf) (fun r1 => if r1 = 0 then (j_chk p1 4 (j_b1 (s_M_in p2 (0 : Int32) ((v_sizeOf p1.toNatClampNeg) - (1 : Int32))) (fun r4 => if r4 = 0 then (s_M_put_c35 p1 p2 p3 v_errors v_bitsOf v_cells (-1000000001 : Int32))
  else (s_M_put_c33 p1 p2 p3 r1 v_errors v_bitsOf v_cells))))
  else (s_M_put_c33 p1 p2 p3 r1 v_errors v_bitsOf v_cells))

def s_M_notMoved_c102 (k0 : Int32) : Option (Int32) :=
  if k0 = 0 then (some ((-1000000001 : Int32)))
  else (some ((0 : Int32)))

def s_M_notMoved_c101 : Option (Int32) :=
  s_M_notMoved_c102 (0 : Int32)

def s_M_notMoved (p1 : Int32) (p2 : Int32) (p3 : Int32) (p4 : Int32) (p5 : Int32) (v_bitsOf : Nat → Int32) (v_sizeOf : Nat → Int32) : Option (Int32) :=
  j_b1 (s_M_isSheet p1) (fun r1 => if r1 = 0 then (some ((-1000000001 : Int32)))
  else (j_b1 (s_M_isSheet p3) (fun r2 => if r2 = 0 then (some ((-1000000001 : Int32)))
  else (j_chk p1 4 (if (v_bitsOf p1.toNatClampNeg) = 0 then (some ((-1000000002 : Int32)))
  else (j_chk p3 4 (if (v_bitsOf p3.toNatClampNeg) = 0 then (some ((-1000000002 : Int32)))
  else (j_chk p1 4 (j_chk p3 4 (if (v_bitsOf p1.toNatClampNeg) = (v_bitsOf p3.toNatClampNeg) then (if p5 < 0 then (s_M_notMoved_c101)
  else (if p2 < 0 then (s_M_notMoved_c101)
  else (if p4 < 0 then (s_M_notMoved_c101)
  else (j_chk p1 4 (if ((v_sizeOf p1.toNatClampNeg) - p2) < p5 then (s_M_notMoved_c101)
  else (j_chk p3 4 (if ((v_sizeOf p3.toNatClampNeg) - p4) < p5 then (s_M_notMoved_c101)
  else (s_M_notMoved_c102 (1 : Int32)))))))))
  else (some ((-1000000005 : Int32)))))))))))))

def s_M_move_c53 (k_28 : Int32 → (Nat → Int32) → (Option (Int32 × (Nat → Int32) × (Nat → Int32)))) (x1 : Int32) (x2 : Int32) (x3 : Int32) (x4 : Int32) (x7 : Int32) (v_cells : Nat → Int32) (k0 : Int32) : Option (Int32 × (Nat → Int32) × (Nat → Int32)) :=
  j_chk (((((24 : Int32) * x1) + x2) + k0)) 96 (j_chk (((((24 : Int32) * x3) + x4) + k0)) 96 (k_28 (x7 + (1 : Int32)) (upd v_cells ((((24 : Int32) * x3) + x4) + k0).toNatClampNeg (v_cells ((((24 : Int32) * x1) + x2) + k0).toNatClampNeg))))

def s_M_move_c28 (x1 : Int32) (x2 : Int32) (x3 : Int32) (x4 : Int32) (x5 : Int32) (v_errors : Nat → Int32) : Nat → Int32 → (Nat → Int32) → (Option (Int32 × (Nat → Int32) × (Nat → Int32)))
  | 0, _, _ => none
  | n + 1, x7, v_cells =>
  if x5 ≤ x7 then (some (x5, v_errors, v_cells))
  else (if x4 ≤ x2 then (s_M_move_c53 (s_M_move_c28 x1 x2 x3 x4 x5 v_errors n) x1 x2 x3 x4 x7 v_cells x7)
  else (s_M_move_c53 (s_M_move_c28 x1 x2 x3 x4 x5 v_errors n) x1 x2 x3 x4 x7 v_cells ((x5 - (1 : Int32)) - x7)))

def s_M_move (p1 : Int32) (p2 : Int32) (p3 : Int32) (p4 : Int32) (p5 : Int32) (v_errors : Nat → Int32) (v_bitsOf : Nat → Int32) (v_sizeOf : Nat → Int32) (v_cells : Nat → Int32) : Option (Int32 × (Nat → Int32) × (Nat → Int32)) :=
  j_b1 (s_M_notMoved p1 p2 p3 p4 p5 v_bitsOf v_sizeOf) (fun r1 => if r1 = 0 then (s_M_move_c28 p1 p2 p3 p4 p5 v_errors 400 (0 : Int32) v_cells)
  else (j_b2 (s_M_error r1 v_errors) (fun r2 u3_errors => some (r2, u3_errors, v_cells))))

def s_M_walls_c53 (k_18 : Int32 → (Nat → Int32) → (Option (Int32 × (Nat → Int32) × (Nat → Int32)))) (x1 : Int32) (x3 : Int32) (v_row : Nat → Int32) (v_errors : Nat → Int32) (v_cells : Nat → Int32) (k0 : Int32) (k1 : Int32) (k2 : Int32) : Option (Int32 × (Nat → Int32) × (Nat → Int32)) :=
  j_b1 (s_M_in k0 k1 k2) (fun r3 => if r3 = 0 then (some (x3, v_row, v_errors))
  else (j_chk ((((24 : Int32) * x1) + x3)) 96 (j_chk (((5 : Int32) + x3)) 397 (k_18 (x3 + (1 : Int32)) (upd v_row ((5 : Int32) + x3).toNatClampNeg (v_cells (((24 : Int32) * x1) + x3).toNatClampNeg))))))

def s_M_walls_c18 (x1 : Int32) (v_errors : Nat → Int32) (v_sizeOf : Nat → Int32) (v_cells : Nat → Int32) : Nat → Int32 → (Nat → Int32) → (Option (Int32 × (Nat → Int32) × (Nat → Int32)))
  | 0, _, _ => none
  | n + 1, x3, v_row =>
  j_chk x1 4 (if (v_sizeOf x1.toNatClampNeg) ≤ x3 then (some (x3, v_row, v_errors))
  else (j_chk ((((24 : Int32) * x1) + x3)) 96 (j_b1 (s_M_inCell x3 v_row) (fun r2 => if 0 ≤ r2 then (s_M_walls_c53 (s_M_walls_c18 x1 v_errors v_sizeOf v_cells n) x1 x3 v_row v_errors v_cells (v_cells (((24 : Int32) * x1) + x3).toNatClampNeg) (0 : Int32) (0 : Int32))
  else (s_M_walls_c53 (s_M_walls_c18 x1 v_errors v_sizeOf v_cells n) x1 x3 v_row v_errors v_cells (v_cells (((24 : Int32) * x1) + x3).toNatClampNeg) (0 : Int32) (1 : Int32))))))

def s_M_walls (p1 : Int32) (v_row : Nat → Int32) (v_errors : Nat → Int32) (v_bitsOf : Nat → Int32) (v_sizeOf : Nat → Int32) (v_cells : Nat → Int32) : Option (Int32 × (Nat → Int32) × (Nat → Int32)) :=
  j_b1 (s_M_notThere p1 v_bitsOf) (fun r1 => if r1 = 0 then (s_M_walls_c18 p1 v_errors v_sizeOf v_cells 400 (0 : Int32) v_row)
  else (j_b2 (s_M_error r1 v_errors) (fun r4 u5_errors => some (r4, v_row, u5_errors))))

def s_M_judge_c18 (x1 : Int32) (v_row : Nat → Int32) (v_errors : Nat → Int32) (v_sizeOf : Nat → Int32) (v_cells : Nat → Int32) : Nat → Int32 → (Nat → Int32) → (Nat → Int32) → (Option (Int32 × (Nat → Int32) × (Nat → Int32) × (Nat → Int32)))
  | 0, _, _, _ => none
  | n + 1, x3, v_facts, v_pile =>
  j_chk x1 4 (if (v_sizeOf x1.toNatClampNeg) ≤ x3 then (some (x3, v_errors, v_facts, v_pile))
  else (j_chk ((((24 : Int32) * x1) + x3)) 96 (j_b3 (s_M_pullOf ((v_row (0 : Int32).toNatClampNeg) + x3) v_row v_facts v_pile) (fun r2 u3_facts u4_pile => if (v_cells (((24 : Int32) * x1) + x3).toNatClampNeg) = r2 then (s_M_judge_c18 x1 v_row v_errors v_sizeOf v_cells n (x3 + (1 : Int32)) u3_facts u4_pile)
  else (some (x3, v_errors, u3_facts, u4_pile))))))

def s_M_judge (p1 : Int32) (v_row : Nat → Int32) (v_errors : Nat → Int32) (v_facts : Nat → Int32) (v_pile : Nat → Int32) (v_bitsOf : Nat → Int32) (v_sizeOf : Nat → Int32) (v_cells : Nat → Int32) : Option (Int32 × (Nat → Int32) × (Nat → Int32) × (Nat → Int32)) :=
  j_b1 (s_M_notThere p1 v_bitsOf) (fun r1 => if r1 = 0 then (s_M_judge_c18 p1 v_row v_errors v_sizeOf v_cells 400 (0 : Int32) v_facts v_pile)
  else (j_b2 (s_M_error r1 v_errors) (fun r5 u6_errors => some (r5, u6_errors, v_facts, v_pile))))

def s_M_image (v_row : Nat → Int32) (v_kept : Nat → Int32) (v_images : Int32) : Option (Int32 × (Nat → Int32) × Int32) :=
  j_b1 (s_M_copyAll v_row v_kept) (fun u1_a1 => some ((v_images + (1 : Int32)), u1_a1, (v_images + (1 : Int32))))

def s_M_restore (v_row : Nat → Int32) (v_kept : Nat → Int32) (v_images : Int32) (v_errors : Nat → Int32) : Option (Int32 × (Nat → Int32) × (Nat → Int32)) :=
  if v_images = 0 then (j_b2 (s_M_error (-1000000002 : Int32) v_errors) (fun r2 u3_errors => some (r2, v_row, u3_errors)))
  else (j_b1 (s_M_copyAll v_kept v_row) (fun u1_a1 => some ((u1_a1 (0 : Int32).toNatClampNeg), u1_a1, v_errors)))

def s_M_tell (p1 : Int32) (v_row : Nat → Int32) (v_errors : Nat → Int32) : Option (Int32 × (Nat → Int32) × (Nat → Int32)) :=
  if (v_row (4 : Int32).toNatClampNeg) = (24 : Int32) then (j_b2 (s_M_error (-1000000004 : Int32) v_errors) (fun r1 u2_errors => some (r1, v_row, u2_errors)))
  else (j_chk (((131 : Int32) + (v_row (4 : Int32).toNatClampNeg))) 397 (some (((upd (upd v_row ((131 : Int32) + (v_row (4 : Int32).toNatClampNeg)).toNatClampNeg p1) (4 : Int32).toNatClampNeg (((upd v_row ((131 : Int32) + (v_row (4 : Int32).toNatClampNeg)).toNatClampNeg p1) (4 : Int32).toNatClampNeg) + (1 : Int32))) (4 : Int32).toNatClampNeg), (upd (upd v_row ((131 : Int32) + (v_row (4 : Int32).toNatClampNeg)).toNatClampNeg p1) (4 : Int32).toNatClampNeg (((upd v_row ((131 : Int32) + (v_row (4 : Int32).toNatClampNeg)).toNatClampNeg p1) (4 : Int32).toNatClampNeg) + (1 : Int32))), v_errors)))

def s_M_check_c48 (x2 : Int32) (v_row : Nat → Int32) : Option (Int32 × (Nat → Int32)) :=
  some (((1 : Int32) + x2), v_row)

def s_M_check_c16 (x1 : Int32) (v_row : Nat → Int32) : Nat → Int32 → (Option (Int32 × (Nat → Int32)))
  | 0, _ => none
  | n + 1, x2 =>
  if x1 ≤ x2 then (some ((0 : Int32), v_row))
  else (j_b1 (s_M_isThing x2 v_row) (fun r1 => if r1 = 0 then (s_M_check_c48 x2 v_row)
  else (j_chk (((131 : Int32) + x2)) 397 (j_b1 (s_M_of x2 (2 : Int32) v_row) (fun r2 => if (v_row ((131 : Int32) + x2).toNatClampNeg) = r2 then (s_M_check_c16 x1 v_row n (x2 + (1 : Int32)))
  else (s_M_check_c48 x2 v_row))))))

def s_M_check (v_row : Nat → Int32) : Option (Int32 × (Nat → Int32)) :=
  s_M_check_c16 (v_row (4 : Int32).toNatClampNeg) (upd v_row (4 : Int32).toNatClampNeg (0 : Int32)) 400 (0 : Int32)

def s_M_count_c73 (v_row : Nat → Int32) (v_errors : Nat → Int32) (v_facts : Nat → Int32) (v_pile : Nat → Int32) : Nat → Int32 → Int32 → (Option (Int32 × (Nat → Int32) × (Nat → Int32) × (Nat → Int32)))
  | 0, _, _ => none
  | n + 1, x2, x3 =>
  if (36 : Int32) ≤ x3 then (some (x2, v_errors, v_facts, v_pile))
  else (j_chk (((5 : Int32) + x3)) 397 (s_M_count_c73 v_row v_errors v_facts v_pile n (x2 + (v_row ((5 : Int32) + x3).toNatClampNeg)) (x3 + (1 : Int32))))

def s_M_count (p1 : Int32) (v_row : Nat → Int32) (v_errors : Nat → Int32) (v_facts : Nat → Int32) (v_pile : Nat → Int32) (v_traced : Int32) : Option (Int32 × (Nat → Int32) × (Nat → Int32) × (Nat → Int32)) :=
  if p1 = (0 : Int32) then (some ((v_row (2 : Int32).toNatClampNeg), v_errors, v_facts, v_pile))
  else if p1 = (1 : Int32) then (some ((v_row (0 : Int32).toNatClampNeg), v_errors, v_facts, v_pile))
  else if p1 = (2 : Int32) then (j_b1 (s_M_broken v_row) (fun r1 => some (r1, v_errors, v_facts, v_pile)))
  else if p1 = (3 : Int32) then (s_M_count_c73 v_row v_errors v_facts v_pile 400 (0 : Int32) (0 : Int32))
  else if p1 = (4 : Int32) then (j_b3 (s_M_pullOf (v_row (0 : Int32).toNatClampNeg) v_row v_facts v_pile) (fun r2 u3_facts u4_pile => some (r2, v_errors, u3_facts, u4_pile)))
  else if p1 = (5 : Int32) then (some ((v_row (3 : Int32).toNatClampNeg), v_errors, v_facts, v_pile))
  else if p1 = (6 : Int32) then (some ((v_row (4 : Int32).toNatClampNeg), v_errors, v_facts, v_pile))
  else if p1 = (7 : Int32) then (some (v_traced, v_errors, v_facts, v_pile))
  else if p1 = (8 : Int32) then (some ((v_row (1 : Int32).toNatClampNeg), v_errors, v_facts, v_pile))
  else (j_b2 (s_M_error (-1000000001 : Int32) v_errors) (fun r5 u6_errors => some (r5, u6_errors, v_facts, v_pile)))

def s_M_told (p1 : Int32) (v_errors : Nat → Int32) : Option (Int32 × (Nat → Int32)) :=
  j_b1 (s_M_in p1 (1 : Int32) (6 : Int32)) (fun r1 => if r1 = 0 then (j_b2 (s_M_error (-1000000001 : Int32) v_errors) (fun r2 u3_errors => some (r2, u3_errors)))
  else (j_chk p1 7 (some ((v_errors p1.toNatClampNeg), v_errors))))
