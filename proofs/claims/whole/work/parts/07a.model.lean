/-! printed by wip/whole/drive.py -/
/-! AisleSchedulerModel.thrown()I -/
abbrev rm_X10_thrown : Room := { frames := 1, cells := 0, slots := 0, locals := 24 }
theorem yn_X10_thrown : am_yn yX10_thrown 0 := ⟨⟨by decide +kernel, by decide +kernel⟩, by decide +kernel⟩
def g_X10_thrown  (M : am_M) : Option (Int32 × am_M) := (some ((am_g M 174 0), M))
set_option maxHeartbeats 4000000 in
set_option maxRecDepth 100000 in
theorem c_X10_thrown (l : Launch) (D : va_G) (E : Nat → ClassId) (z : Nat)  (M : am_M) (r0 : Int32) (M1 : am_M) (h : g_X10_thrown  M = some (r0, M1)) : am_Mi l yX10_thrown cX10_thrown 1 (some .int) rm_X10_thrown D E z [.ref (z + 174)] M r0 M1 := by
  unfold g_X10_thrown at h
  refine am_of (own := RX10) (by decide +kernel) rfl (by exact Nat.le_of_ble_eq_true rfl) ?_
  intro p e s m args below meth c F hr
  show am_W p l e rm_X10_thrown s m args below meth c _ 1 D E z 0 0 M 0 [(0, .ref (z + 174))] []
  refine am_aload_n F 0 dX10_thrown_0 rfl rfl ?_
  refine gf_X10_51 F lyk_174 dX10_thrown_1 ?_
  exact am_iret F hr h dX10_thrown_4
/-! AisleSchedulerModel.fails(I)I -/
abbrev rm_X10_fails : Room := { frames := 1, cells := 0, slots := 0, locals := 24 }
theorem yn_X10_fails : am_yn yX10_fails 1 := ⟨⟨by decide +kernel, by decide +kernel⟩, by decide +kernel⟩
def g_X10_fails (a1 : Int32) (M : am_M) : Option (Int32 × am_M) := (some ((0 : Int32), (am_s M 174 0 a1)))
set_option maxHeartbeats 4000000 in
set_option maxRecDepth 100000 in
theorem c_X10_fails (l : Launch) (D : va_G) (E : Nat → ClassId) (z : Nat) (a1 : Int32) (M : am_M) (r0 : Int32) (M1 : am_M) (h : g_X10_fails a1 M = some (r0, M1)) : am_Mi l yX10_fails cX10_fails 2 (some .int) rm_X10_fails D E z [.ref (z + 174), .int a1] M r0 M1 := by
  unfold g_X10_fails at h
  refine am_of (own := RX10) (by decide +kernel) rfl (by exact Nat.le_of_ble_eq_true rfl) ?_
  intro p e s m args below meth c F hr
  show am_W p l e rm_X10_fails s m args below meth c _ 2 D E z 0 0 M 0 [(0, .ref (z + 174)), (1, .int a1)] []
  refine am_aload_n F 0 dX10_fails_0 rfl rfl ?_
  refine am_iload_n F 1 dX10_fails_1 rfl rfl ?_
  refine pf_X10_51 F lyk_174 dX10_fails_2 ?_
  refine am_iconst F (v := (0 : Int32)) dX10_fails_5 (by decide) ?_
  exact am_iret F hr h dX10_fails_6
/-! AisleSchedulerModel.in(III)Z -/
abbrev rm_X10_in : Room := { frames := 1, cells := 0, slots := 0, locals := 24 }
theorem yn_X10_in : am_yn yX10_in 3 := ⟨⟨by decide +kernel, by decide +kernel⟩, by decide +kernel⟩
def g_X10_in (a0 : Int32) (a1 : Int32) (a2 : Int32) (M : am_M) : Option (Int32 × am_M) := (if a0 < a1 then (some ((0 : Int32), M)) else (if a2 < a0 then (some ((0 : Int32), M)) else (some ((1 : Int32), M))))
set_option maxHeartbeats 4000000 in
set_option maxRecDepth 100000 in
theorem c_X10_in (l : Launch) (D : va_G) (E : Nat → ClassId) (z : Nat) (a0 : Int32) (a1 : Int32) (a2 : Int32) (M : am_M) (r0 : Int32) (M1 : am_M) (h : g_X10_in a0 a1 a2 M = some (r0, M1)) : am_Mi l yX10_in cX10_in 3 (some .boolean) rm_X10_in D E z [.int a0, .int a1, .int a2] M r0 M1 := by
  unfold g_X10_in at h
  refine am_of (own := RX10) (by decide +kernel) rfl (by exact Nat.le_of_ble_eq_true rfl) ?_
  intro p e s m args below meth c F hr
  show am_W p l e rm_X10_in s m args below meth c _ 3 D E z 0 0 M 0 [(0, .int a0), (1, .int a1), (2, .int a2)] []
  refine am_iload_n F 0 dX10_in_0 rfl rfl ?_
  refine am_iload_n F 1 dX10_in_1 rfl rfl ?_
  refine am_icmp_lt F (tgt := 14) dX10_in_2 (by decide) (fun c2 => ?_) (fun c2 => ?_)
  · have h := (if_pos c2).symm.trans h
    refine am_iconst F (v := (0 : Int32)) dX10_in_14 (by decide) ?_
    exact am_zret F hr (by decide) h dX10_in_15
  · have h := (if_neg c2).symm.trans h
    refine am_iload_n F 0 dX10_in_5 rfl rfl ?_
    refine am_iload_n F 2 dX10_in_6 rfl rfl ?_
    refine am_icmp_gt F (tgt := 14) dX10_in_7 (by decide) (fun c1 => ?_) (fun c1 => ?_)
    · have h := (if_pos c1).symm.trans h
      refine am_iconst F (v := (0 : Int32)) dX10_in_14 (by decide) ?_
      exact am_zret F hr (by decide) h dX10_in_15
    · have h := (if_neg c1).symm.trans h
      refine am_iconst F (v := (1 : Int32)) dX10_in_10 (by decide) ?_
      refine am_goto F (tgt := 15) dX10_in_11 (by decide) ?_
      exact am_zret F hr (by decide) h dX10_in_15
/-! AisleSchedulerModel.isCell(I)Z -/
abbrev rm_X10_isCell : Room := { frames := 2, cells := 0, slots := 0, locals := 46 }
theorem yn_X10_isCell : am_yn yX10_isCell 1 := ⟨⟨by decide +kernel, by decide +kernel⟩, by decide +kernel⟩
def g_X10_isCell (a0 : Int32) (M : am_M) : Option (Int32 × am_M) := (am_b (g_X10_in a0 (0 : Int32) (39 : Int32) M) (fun v3 M2 => (am_c (v3 = 0 ∨ v3 = 1) (some (v3, M2)))))
set_option maxHeartbeats 4000000 in
set_option maxRecDepth 100000 in
theorem c_X10_isCell (l : Launch) (D : va_G) (E : Nat → ClassId) (z : Nat) (a0 : Int32) (M : am_M) (r0 : Int32) (M1 : am_M) (h : g_X10_isCell a0 M = some (r0, M1)) : am_Mi l yX10_isCell cX10_isCell 1 (some .boolean) rm_X10_isCell D E z [.int a0] M r0 M1 := by
  unfold g_X10_isCell at h
  refine am_of (own := RX10) (by decide +kernel) rfl (by exact Nat.le_of_ble_eq_true rfl) ?_
  intro p e s m args below meth c F hr
  show am_W p l e rm_X10_isCell s m args below meth c _ 1 D E z 0 0 M 0 [(0, .int a0)] []
  refine am_iload_n F 0 dX10_isCell_0 rfl rfl ?_
  refine am_iconst F (v := (0 : Int32)) dX10_isCell_1 (by decide) ?_
  refine am_bipush F (v := (39 : Int32)) dX10_isCell_2 (by decide) ?_
  obtain ⟨v3, M2, h1, h⟩ := am_bE h
  refine am_callSi F [.int a0, .int (0 : Int32), .int (39 : Int32)] cw_X10_54 rfl (c_X10_in l D E z a0 (0 : Int32) (39 : Int32) M v3 M2 h1) yn_X10_in rfl ⟨Nat.le_of_ble_eq_true rfl, Nat.le_of_ble_eq_true rfl⟩ rfl rfl (Nat.le_of_ble_eq_true rfl) ⟨Nat.zero_le _, Nat.zero_le _⟩ dX10_isCell_4 rfl ?_
  obtain ⟨q4, h⟩ := am_cE h
  exact am_zret F hr q4 h dX10_isCell_7
/-! AisleSchedulerModel.isRobot(I)Z -/
abbrev rm_X10_isRobot : Room := { frames := 2, cells := 0, slots := 0, locals := 46 }
theorem yn_X10_isRobot : am_yn yX10_isRobot 1 := ⟨⟨by decide +kernel, by decide +kernel⟩, by decide +kernel⟩
def g_X10_isRobot (a1 : Int32) (M : am_M) : Option (Int32 × am_M) := (am_ci (6 : Int32) 406 (am_b (g_X10_in a1 (0 : Int32) ((am_g M 175 (6 : Int32).toNatClampNeg) - (1 : Int32)) M) (fun v4 M3 => (am_c (v4 = 0 ∨ v4 = 1) (some (v4, M3))))))
set_option maxHeartbeats 4000000 in
set_option maxRecDepth 100000 in
theorem c_X10_isRobot (l : Launch) (D : va_G) (E : Nat → ClassId) (z : Nat) (a1 : Int32) (M : am_M) (r0 : Int32) (M1 : am_M) (h : g_X10_isRobot a1 M = some (r0, M1)) : am_Mi l yX10_isRobot cX10_isRobot 2 (some .boolean) rm_X10_isRobot D E z [.ref (z + 174), .int a1] M r0 M1 := by
  unfold g_X10_isRobot at h
  refine am_of (own := RX10) (by decide +kernel) rfl (by exact Nat.le_of_ble_eq_true rfl) ?_
  intro p e s m args below meth c F hr
  show am_W p l e rm_X10_isRobot s m args below meth c _ 2 D E z 0 0 M 0 [(0, .ref (z + 174)), (1, .int a1)] []
  refine am_iload_n F 1 dX10_isRobot_0 rfl rfl ?_
  refine am_iconst F (v := (0 : Int32)) dX10_isRobot_1 (by decide) ?_
  refine am_aload_n F 0 dX10_isRobot_2 rfl rfl ?_
  refine gf_X10_7 F lyk_174 dX10_isRobot_3 ?_
  refine am_bipush F (v := (6 : Int32)) dX10_isRobot_6 (by decide) ?_
  obtain ⟨q1, h⟩ := am_ciE h
  refine am_iald F lyk_175 q1 dX10_isRobot_8 ?_
  refine am_iconst F (v := (1 : Int32)) dX10_isRobot_9 (by decide) ?_
  refine am_isub F dX10_isRobot_10 ?_
  obtain ⟨v4, M3, h2, h⟩ := am_bE h
  refine am_callSi F [.int a1, .int (0 : Int32), .int ((am_g M 175 (6 : Int32).toNatClampNeg) - (1 : Int32))] cw_X10_54 rfl (c_X10_in l D E z a1 (0 : Int32) ((am_g M 175 (6 : Int32).toNatClampNeg) - (1 : Int32)) M v4 M3 h2) yn_X10_in rfl ⟨Nat.le_of_ble_eq_true rfl, Nat.le_of_ble_eq_true rfl⟩ rfl rfl (Nat.le_of_ble_eq_true rfl) ⟨Nat.zero_le _, Nat.zero_le _⟩ dX10_isRobot_11 rfl ?_
  obtain ⟨q5, h⟩ := am_cE h
  exact am_zret F hr q5 h dX10_isRobot_14
/-! AisleSchedulerModel.isTask(I)Z -/
abbrev rm_X10_isTask : Room := { frames := 2, cells := 0, slots := 0, locals := 46 }
theorem yn_X10_isTask : am_yn yX10_isTask 1 := ⟨⟨by decide +kernel, by decide +kernel⟩, by decide +kernel⟩
def g_X10_isTask (a1 : Int32) (M : am_M) : Option (Int32 × am_M) := (am_ci (7 : Int32) 406 (am_b (g_X10_in a1 (0 : Int32) ((am_g M 175 (7 : Int32).toNatClampNeg) - (1 : Int32)) M) (fun v4 M3 => (am_c (v4 = 0 ∨ v4 = 1) (some (v4, M3))))))
set_option maxHeartbeats 4000000 in
set_option maxRecDepth 100000 in
theorem c_X10_isTask (l : Launch) (D : va_G) (E : Nat → ClassId) (z : Nat) (a1 : Int32) (M : am_M) (r0 : Int32) (M1 : am_M) (h : g_X10_isTask a1 M = some (r0, M1)) : am_Mi l yX10_isTask cX10_isTask 2 (some .boolean) rm_X10_isTask D E z [.ref (z + 174), .int a1] M r0 M1 := by
  unfold g_X10_isTask at h
  refine am_of (own := RX10) (by decide +kernel) rfl (by exact Nat.le_of_ble_eq_true rfl) ?_
  intro p e s m args below meth c F hr
  show am_W p l e rm_X10_isTask s m args below meth c _ 2 D E z 0 0 M 0 [(0, .ref (z + 174)), (1, .int a1)] []
  refine am_iload_n F 1 dX10_isTask_0 rfl rfl ?_
  refine am_iconst F (v := (0 : Int32)) dX10_isTask_1 (by decide) ?_
  refine am_aload_n F 0 dX10_isTask_2 rfl rfl ?_
  refine gf_X10_7 F lyk_174 dX10_isTask_3 ?_
  refine am_bipush F (v := (7 : Int32)) dX10_isTask_6 (by decide) ?_
  obtain ⟨q1, h⟩ := am_ciE h
  refine am_iald F lyk_175 q1 dX10_isTask_8 ?_
  refine am_iconst F (v := (1 : Int32)) dX10_isTask_9 (by decide) ?_
  refine am_isub F dX10_isTask_10 ?_
  obtain ⟨v4, M3, h2, h⟩ := am_bE h
  refine am_callSi F [.int a1, .int (0 : Int32), .int ((am_g M 175 (7 : Int32).toNatClampNeg) - (1 : Int32))] cw_X10_54 rfl (c_X10_in l D E z a1 (0 : Int32) ((am_g M 175 (7 : Int32).toNatClampNeg) - (1 : Int32)) M v4 M3 h2) yn_X10_in rfl ⟨Nat.le_of_ble_eq_true rfl, Nat.le_of_ble_eq_true rfl⟩ rfl rfl (Nat.le_of_ble_eq_true rfl) ⟨Nat.zero_le _, Nat.zero_le _⟩ dX10_isTask_11 rfl ?_
  obtain ⟨q5, h⟩ := am_cE h
  exact am_zret F hr q5 h dX10_isTask_14
/-! AisleSchedulerModel.of(II)I -/
abbrev rm_X10_of : Room := { frames := 1, cells := 0, slots := 0, locals := 24 }
theorem yn_X10_of : am_yn yX10_of 2 := ⟨⟨by decide +kernel, by decide +kernel⟩, by decide +kernel⟩
def g_X10_of (a1 : Int32) (a2 : Int32) (M : am_M) : Option (Int32 × am_M) := (am_ci (((88 : Int32) + ((42 : Int32) * a1)) + a2) 406 (some ((am_g M 175 (((88 : Int32) + ((42 : Int32) * a1)) + a2).toNatClampNeg), M)))
set_option maxHeartbeats 4000000 in
set_option maxRecDepth 100000 in
theorem c_X10_of (l : Launch) (D : va_G) (E : Nat → ClassId) (z : Nat) (a1 : Int32) (a2 : Int32) (M : am_M) (r0 : Int32) (M1 : am_M) (h : g_X10_of a1 a2 M = some (r0, M1)) : am_Mi l yX10_of cX10_of 3 (some .int) rm_X10_of D E z [.ref (z + 174), .int a1, .int a2] M r0 M1 := by
  unfold g_X10_of at h
  refine am_of (own := RX10) (by decide +kernel) rfl (by exact Nat.le_of_ble_eq_true rfl) ?_
  intro p e s m args below meth c F hr
  show am_W p l e rm_X10_of s m args below meth c _ 3 D E z 0 0 M 0 [(0, .ref (z + 174)), (1, .int a1), (2, .int a2)] []
  refine am_aload_n F 0 dX10_of_0 rfl rfl ?_
  refine gf_X10_7 F lyk_174 dX10_of_1 ?_
  refine am_bipush F (v := (88 : Int32)) dX10_of_4 (by decide) ?_
  refine am_bipush F (v := (42 : Int32)) dX10_of_6 (by decide) ?_
  refine am_iload_n F 1 dX10_of_8 rfl rfl ?_
  refine am_imul F dX10_of_9 ?_
  refine am_iadd F dX10_of_10 ?_
  refine am_iload_n F 2 dX10_of_11 rfl rfl ?_
  refine am_iadd F dX10_of_12 ?_
  obtain ⟨q1, h⟩ := am_ciE h
  refine am_iald F lyk_175 q1 dX10_of_13 ?_
  exact am_iret F hr h dX10_of_14
/-! AisleSchedulerModel.put(III)V -/
abbrev rm_X10_put : Room := { frames := 1, cells := 0, slots := 0, locals := 24 }
theorem yn_X10_put : am_yn yX10_put 3 := ⟨⟨by decide +kernel, by decide +kernel⟩, by decide +kernel⟩
def g_X10_put (a1 : Int32) (a2 : Int32) (a3 : Int32) (M : am_M) : Option (Unit × am_M) := (am_ci (((88 : Int32) + ((42 : Int32) * a1)) + a2) 406 (some ((), (am_s M 175 (((88 : Int32) + ((42 : Int32) * a1)) + a2).toNatClampNeg a3))))
set_option maxHeartbeats 4000000 in
set_option maxRecDepth 100000 in
theorem c_X10_put (l : Launch) (D : va_G) (E : Nat → ClassId) (z : Nat) (a1 : Int32) (a2 : Int32) (a3 : Int32) (M : am_M)  (M1 : am_M) (h : g_X10_put a1 a2 a3 M = some ((), M1)) : am_Mv l yX10_put cX10_put 4 none rm_X10_put D E z [.ref (z + 174), .int a1, .int a2, .int a3] M M1 := by
  unfold g_X10_put at h
  refine am_of (own := RX10) (by decide +kernel) rfl (by exact Nat.le_of_ble_eq_true rfl) ?_
  intro p e s m args below meth c F hr
  show am_W p l e rm_X10_put s m args below meth c _ 4 D E z 0 0 M 0 [(0, .ref (z + 174)), (1, .int a1), (2, .int a2), (3, .int a3)] []
  refine am_aload_n F 0 dX10_put_0 rfl rfl ?_
  refine gf_X10_7 F lyk_174 dX10_put_1 ?_
  refine am_bipush F (v := (88 : Int32)) dX10_put_4 (by decide) ?_
  refine am_bipush F (v := (42 : Int32)) dX10_put_6 (by decide) ?_
  refine am_iload_n F 1 dX10_put_8 rfl rfl ?_
  refine am_imul F dX10_put_9 ?_
  refine am_iadd F dX10_put_10 ?_
  refine am_iload_n F 2 dX10_put_11 rfl rfl ?_
  refine am_iadd F dX10_put_12 ?_
  refine am_iload_n F 3 dX10_put_13 rfl rfl ?_
  obtain ⟨q1, h⟩ := am_ciE h
  refine am_iast F lyk_175 q1 dX10_put_14 ?_
  exact am_vret F hr h dX10_put_15
/-! AisleSchedulerModel.adds(III)V -/
abbrev rm_X10_adds : Room := { frames := 1, cells := 0, slots := 0, locals := 24 }
theorem yn_X10_adds : am_yn yX10_adds 3 := ⟨⟨by decide +kernel, by decide +kernel⟩, by decide +kernel⟩
def g_X10_adds (a1 : Int32) (a2 : Int32) (a3 : Int32) (M : am_M) : Option (Unit × am_M) := (am_ci (((88 : Int32) + ((42 : Int32) * a1)) + a2) 406 (am_ci (((88 : Int32) + ((42 : Int32) * a1)) + a2) 406 (some ((), (am_s M 175 (((88 : Int32) + ((42 : Int32) * a1)) + a2).toNatClampNeg ((am_g M 175 (((88 : Int32) + ((42 : Int32) * a1)) + a2).toNatClampNeg) + a3))))))
set_option maxHeartbeats 4000000 in
set_option maxRecDepth 100000 in
theorem c_X10_adds (l : Launch) (D : va_G) (E : Nat → ClassId) (z : Nat) (a1 : Int32) (a2 : Int32) (a3 : Int32) (M : am_M)  (M1 : am_M) (h : g_X10_adds a1 a2 a3 M = some ((), M1)) : am_Mv l yX10_adds cX10_adds 4 none rm_X10_adds D E z [.ref (z + 174), .int a1, .int a2, .int a3] M M1 := by
  unfold g_X10_adds at h
  refine am_of (own := RX10) (by decide +kernel) rfl (by exact Nat.le_of_ble_eq_true rfl) ?_
  intro p e s m args below meth c F hr
  show am_W p l e rm_X10_adds s m args below meth c _ 4 D E z 0 0 M 0 [(0, .ref (z + 174)), (1, .int a1), (2, .int a2), (3, .int a3)] []
  refine am_aload_n F 0 dX10_adds_0 rfl rfl ?_
  refine gf_X10_7 F lyk_174 dX10_adds_1 ?_
  refine am_bipush F (v := (88 : Int32)) dX10_adds_4 (by decide) ?_
  refine am_bipush F (v := (42 : Int32)) dX10_adds_6 (by decide) ?_
  refine am_iload_n F 1 dX10_adds_8 rfl rfl ?_
  refine am_imul F dX10_adds_9 ?_
  refine am_iadd F dX10_adds_10 ?_
  refine am_iload_n F 2 dX10_adds_11 rfl rfl ?_
  refine am_iadd F dX10_adds_12 ?_
  refine am_dup2 F dX10_adds_13 rfl rfl ?_
  obtain ⟨q1, h⟩ := am_ciE h
  refine am_iald F lyk_175 q1 dX10_adds_14 ?_
  refine am_iload_n F 3 dX10_adds_15 rfl rfl ?_
  refine am_iadd F dX10_adds_16 ?_
  obtain ⟨q2, h⟩ := am_ciE h
  refine am_iast F lyk_175 q2 dX10_adds_17 ?_
  exact am_vret F hr h dX10_adds_18
/-! AisleSchedulerModel.item(II)I -/
abbrev rm_X10_item : Room := { frames := 1, cells := 0, slots := 0, locals := 24 }
theorem yn_X10_item : am_yn yX10_item 2 := ⟨⟨by decide +kernel, by decide +kernel⟩, by decide +kernel⟩
def g_X10_item (a1 : Int32) (a2 : Int32) (M : am_M) : Option (Int32 × am_M) := (am_ci (((298 : Int32) + ((9 : Int32) * a1)) + a2) 406 (some ((am_g M 175 (((298 : Int32) + ((9 : Int32) * a1)) + a2).toNatClampNeg), M)))
set_option maxHeartbeats 4000000 in
set_option maxRecDepth 100000 in
theorem c_X10_item (l : Launch) (D : va_G) (E : Nat → ClassId) (z : Nat) (a1 : Int32) (a2 : Int32) (M : am_M) (r0 : Int32) (M1 : am_M) (h : g_X10_item a1 a2 M = some (r0, M1)) : am_Mi l yX10_item cX10_item 3 (some .int) rm_X10_item D E z [.ref (z + 174), .int a1, .int a2] M r0 M1 := by
  unfold g_X10_item at h
  refine am_of (own := RX10) (by decide +kernel) rfl (by exact Nat.le_of_ble_eq_true rfl) ?_
  intro p e s m args below meth c F hr
  show am_W p l e rm_X10_item s m args below meth c _ 3 D E z 0 0 M 0 [(0, .ref (z + 174)), (1, .int a1), (2, .int a2)] []
  refine am_aload_n F 0 dX10_item_0 rfl rfl ?_
  refine gf_X10_7 F lyk_174 dX10_item_1 ?_
  refine am_sipush F (v := (298 : Int32)) dX10_item_4 (by decide) ?_
  refine am_bipush F (v := (9 : Int32)) dX10_item_7 (by decide) ?_
  refine am_iload_n F 1 dX10_item_9 rfl rfl ?_
  refine am_imul F dX10_item_10 ?_
  refine am_iadd F dX10_item_11 ?_
  refine am_iload_n F 2 dX10_item_12 rfl rfl ?_
  refine am_iadd F dX10_item_13 ?_
  obtain ⟨q1, h⟩ := am_ciE h
  refine am_iald F lyk_175 q1 dX10_item_14 ?_
  exact am_iret F hr h dX10_item_15
/-! AisleSchedulerModel.set(III)V -/
abbrev rm_X10_set : Room := { frames := 1, cells := 0, slots := 0, locals := 24 }
theorem yn_X10_set : am_yn yX10_set 3 := ⟨⟨by decide +kernel, by decide +kernel⟩, by decide +kernel⟩
def g_X10_set (a1 : Int32) (a2 : Int32) (a3 : Int32) (M : am_M) : Option (Unit × am_M) := (am_ci (((298 : Int32) + ((9 : Int32) * a1)) + a2) 406 (some ((), (am_s M 175 (((298 : Int32) + ((9 : Int32) * a1)) + a2).toNatClampNeg a3))))
set_option maxHeartbeats 4000000 in
set_option maxRecDepth 100000 in
theorem c_X10_set (l : Launch) (D : va_G) (E : Nat → ClassId) (z : Nat) (a1 : Int32) (a2 : Int32) (a3 : Int32) (M : am_M)  (M1 : am_M) (h : g_X10_set a1 a2 a3 M = some ((), M1)) : am_Mv l yX10_set cX10_set 4 none rm_X10_set D E z [.ref (z + 174), .int a1, .int a2, .int a3] M M1 := by
  unfold g_X10_set at h
  refine am_of (own := RX10) (by decide +kernel) rfl (by exact Nat.le_of_ble_eq_true rfl) ?_
  intro p e s m args below meth c F hr
  show am_W p l e rm_X10_set s m args below meth c _ 4 D E z 0 0 M 0 [(0, .ref (z + 174)), (1, .int a1), (2, .int a2), (3, .int a3)] []
  refine am_aload_n F 0 dX10_set_0 rfl rfl ?_
  refine gf_X10_7 F lyk_174 dX10_set_1 ?_
  refine am_sipush F (v := (298 : Int32)) dX10_set_4 (by decide) ?_
  refine am_bipush F (v := (9 : Int32)) dX10_set_7 (by decide) ?_
  refine am_iload_n F 1 dX10_set_9 rfl rfl ?_
  refine am_imul F dX10_set_10 ?_
  refine am_iadd F dX10_set_11 ?_
  refine am_iload_n F 2 dX10_set_12 rfl rfl ?_
  refine am_iadd F dX10_set_13 ?_
  refine am_iload_n F 3 dX10_set_14 rfl rfl ?_
  obtain ⟨q1, h⟩ := am_ciE h
  refine am_iast F lyk_175 q1 dX10_set_15 ?_
  exact am_vret F hr h dX10_set_16
/-! AisleSchedulerModel.act(II)I -/
abbrev rm_X10_act : Room := { frames := 2, cells := 0, slots := 0, locals := 46 }
theorem yn_X10_act : am_yn yX10_act 2 := ⟨⟨by decide +kernel, by decide +kernel⟩, by decide +kernel⟩
def g_X10_act (a1 : Int32) (a2 : Int32) (M : am_M) : Option (Int32 × am_M) := (am_b (g_X10_of a1 ((11 : Int32) + a2) M) (fun v3 M2 => (some (v3, M2))))
set_option maxHeartbeats 4000000 in
set_option maxRecDepth 100000 in
theorem c_X10_act (l : Launch) (D : va_G) (E : Nat → ClassId) (z : Nat) (a1 : Int32) (a2 : Int32) (M : am_M) (r0 : Int32) (M1 : am_M) (h : g_X10_act a1 a2 M = some (r0, M1)) : am_Mi l yX10_act cX10_act 3 (some .int) rm_X10_act D E z [.ref (z + 174), .int a1, .int a2] M r0 M1 := by
  unfold g_X10_act at h
  refine am_of (own := RX10) (by decide +kernel) rfl (by exact Nat.le_of_ble_eq_true rfl) ?_
  intro p e s m args below meth c F hr
  show am_W p l e rm_X10_act s m args below meth c _ 3 D E z 0 0 M 0 [(0, .ref (z + 174)), (1, .int a1), (2, .int a2)] []
  refine am_aload_n F 0 dX10_act_0 rfl rfl ?_
  refine am_iload_n F 1 dX10_act_1 rfl rfl ?_
  refine am_bipush F (v := (11 : Int32)) dX10_act_2 (by decide) ?_
  refine am_iload_n F 2 dX10_act_4 rfl rfl ?_
  refine am_iadd F dX10_act_5 ?_
  obtain ⟨v3, M2, h1, h⟩ := am_bE h
  refine am_callVi F [.int a1, .int ((11 : Int32) + a2)] lyk_174 (by decide) rfl cw_X10_58 (c_X10_of l D E z a1 ((11 : Int32) + a2) M v3 M2 h1) yn_X10_of rfl ⟨Nat.le_of_ble_eq_true rfl, Nat.le_of_ble_eq_true rfl⟩ rfl rfl (Nat.le_of_ble_eq_true rfl) ⟨Nat.zero_le _, Nat.zero_le _⟩ dX10_act_6 rfl ?_
  exact am_iret F hr h dX10_act_9
/-! AisleSchedulerModel.isInLift(I)Z -/
abbrev rm_X10_isInLift : Room := { frames := 2, cells := 0, slots := 0, locals := 46 }
theorem yn_X10_isInLift : am_yn yX10_isInLift 1 := ⟨⟨by decide +kernel, by decide +kernel⟩, by decide +kernel⟩
def g_X10_isInLift (a1 : Int32) (M : am_M) : Option (Int32 × am_M) := (am_b (g_X10_of a1 (3 : Int32) M) (fun v3 M2 => (if v3 ≤ (0 : Int32) then (some ((0 : Int32), M2)) else (some ((1 : Int32), M2)))))
set_option maxHeartbeats 4000000 in
set_option maxRecDepth 100000 in
theorem c_X10_isInLift (l : Launch) (D : va_G) (E : Nat → ClassId) (z : Nat) (a1 : Int32) (M : am_M) (r0 : Int32) (M1 : am_M) (h : g_X10_isInLift a1 M = some (r0, M1)) : am_Mi l yX10_isInLift cX10_isInLift 2 (some .boolean) rm_X10_isInLift D E z [.ref (z + 174), .int a1] M r0 M1 := by
  unfold g_X10_isInLift at h
  refine am_of (own := RX10) (by decide +kernel) rfl (by exact Nat.le_of_ble_eq_true rfl) ?_
  intro p e s m args below meth c F hr
  show am_W p l e rm_X10_isInLift s m args below meth c _ 2 D E z 0 0 M 0 [(0, .ref (z + 174)), (1, .int a1)] []
  refine am_aload_n F 0 dX10_isInLift_0 rfl rfl ?_
  refine am_iload_n F 1 dX10_isInLift_1 rfl rfl ?_
  refine am_iconst F (v := (3 : Int32)) dX10_isInLift_2 (by decide) ?_
  obtain ⟨v3, M2, h1, h⟩ := am_bE h
  refine am_callVi F [.int a1, .int (3 : Int32)] lyk_174 (by decide) rfl cw_X10_58 (c_X10_of l D E z a1 (3 : Int32) M v3 M2 h1) yn_X10_of rfl ⟨Nat.le_of_ble_eq_true rfl, Nat.le_of_ble_eq_true rfl⟩ rfl rfl (Nat.le_of_ble_eq_true rfl) ⟨Nat.zero_le _, Nat.zero_le _⟩ dX10_isInLift_3 rfl ?_
  refine am_if_le F (tgt := 13) dX10_isInLift_6 (by decide) (fun c4 => ?_) (fun c4 => ?_)
  · have h := (if_pos c4).symm.trans h
    refine am_iconst F (v := (0 : Int32)) dX10_isInLift_13 (by decide) ?_
    exact am_zret F hr (by decide) h dX10_isInLift_14
  · have h := (if_neg c4).symm.trans h
    refine am_iconst F (v := (1 : Int32)) dX10_isInLift_9 (by decide) ?_
    refine am_goto F (tgt := 14) dX10_isInLift_10 (by decide) ?_
    exact am_zret F hr (by decide) h dX10_isInLift_14
/-! AisleSchedulerModel.isWall(I)Z -/
abbrev rm_X10_isWall : Room := { frames := 1, cells := 0, slots := 0, locals := 24 }
theorem yn_X10_isWall : am_yn yX10_isWall 1 := ⟨⟨by decide +kernel, by decide +kernel⟩, by decide +kernel⟩
def g_X10_isWall (a1 : Int32) (M : am_M) : Option (Int32 × am_M) := (am_ci ((8 : Int32) + a1) 406 (if (am_g M 175 ((8 : Int32) + a1).toNatClampNeg) = (1 : Int32) then (some ((1 : Int32), M)) else (some ((0 : Int32), M))))
set_option maxHeartbeats 4000000 in
set_option maxRecDepth 100000 in
theorem c_X10_isWall (l : Launch) (D : va_G) (E : Nat → ClassId) (z : Nat) (a1 : Int32) (M : am_M) (r0 : Int32) (M1 : am_M) (h : g_X10_isWall a1 M = some (r0, M1)) : am_Mi l yX10_isWall cX10_isWall 2 (some .boolean) rm_X10_isWall D E z [.ref (z + 174), .int a1] M r0 M1 := by
  unfold g_X10_isWall at h
  refine am_of (own := RX10) (by decide +kernel) rfl (by exact Nat.le_of_ble_eq_true rfl) ?_
  intro p e s m args below meth c F hr
  show am_W p l e rm_X10_isWall s m args below meth c _ 2 D E z 0 0 M 0 [(0, .ref (z + 174)), (1, .int a1)] []
  refine am_aload_n F 0 dX10_isWall_0 rfl rfl ?_
  refine gf_X10_7 F lyk_174 dX10_isWall_1 ?_
  refine am_bipush F (v := (8 : Int32)) dX10_isWall_4 (by decide) ?_
  refine am_iload_n F 1 dX10_isWall_6 rfl rfl ?_
  refine am_iadd F dX10_isWall_7 ?_
  obtain ⟨q1, h⟩ := am_ciE h
  refine am_iald F lyk_175 q1 dX10_isWall_8 ?_
  refine am_iconst F (v := (1 : Int32)) dX10_isWall_9 (by decide) ?_
  refine am_icmp_ne F (tgt := 17) dX10_isWall_10 (by decide) (fun c2 => ?_) (fun c2 => ?_)
  · have h := (if_neg c2).symm.trans h
    refine am_iconst F (v := (0 : Int32)) dX10_isWall_17 (by decide) ?_
    exact am_zret F hr (by decide) h dX10_isWall_18
  · have h := (if_pos c2).symm.trans h
    refine am_iconst F (v := (1 : Int32)) dX10_isWall_13 (by decide) ?_
    refine am_goto F (tgt := 18) dX10_isWall_14 (by decide) ?_
    exact am_zret F hr (by decide) h dX10_isWall_18
/-! AisleSchedulerModel.ridden(II)I -/
abbrev rm_X10_ridden : Room := { frames := 1, cells := 0, slots := 0, locals := 24 }
theorem yn_X10_ridden : am_yn yX10_ridden 2 := ⟨⟨by decide +kernel, by decide +kernel⟩, by decide +kernel⟩
def g_X10_ridden (a1 : Int32) (a2 : Int32) (M : am_M) : Option (Int32 × am_M) := (am_ci (1 : Int32) 406 (if a2 < (am_g M 175 (1 : Int32).toNatClampNeg) then (am_ci ((2 : Int32) + ((2 : Int32) * a2)) 406 (if (am_g M 175 ((2 : Int32) + ((2 : Int32) * a2)).toNatClampNeg) = a1 then (am_ci (((2 : Int32) + ((2 : Int32) * a2)) + (1 : Int32)) 406 (some ((am_g M 175 (((2 : Int32) + ((2 : Int32) * a2)) + (1 : Int32)).toNatClampNeg), M))) else (am_ci (((2 : Int32) + ((2 : Int32) * a2)) + (1 : Int32)) 406 (if (am_g M 175 (((2 : Int32) + ((2 : Int32) * a2)) + (1 : Int32)).toNatClampNeg) = a1 then (am_ci ((2 : Int32) + ((2 : Int32) * a2)) 406 (some ((am_g M 175 ((2 : Int32) + ((2 : Int32) * a2)).toNatClampNeg), M))) else (some ((-1 : Int32), M)))))) else (some ((-1 : Int32), M))))
set_option maxHeartbeats 4000000 in
set_option maxRecDepth 100000 in
theorem c_X10_ridden (l : Launch) (D : va_G) (E : Nat → ClassId) (z : Nat) (a1 : Int32) (a2 : Int32) (M : am_M) (r0 : Int32) (M1 : am_M) (h : g_X10_ridden a1 a2 M = some (r0, M1)) : am_Mi l yX10_ridden cX10_ridden 3 (some .int) rm_X10_ridden D E z [.ref (z + 174), .int a1, .int a2] M r0 M1 := by
  unfold g_X10_ridden at h
  refine am_of (own := RX10) (by decide +kernel) rfl (by exact Nat.le_of_ble_eq_true rfl) ?_
  intro p e s m args below meth c F hr
  show am_W p l e rm_X10_ridden s m args below meth c _ 3 D E z 0 0 M 0 [(0, .ref (z + 174)), (1, .int a1), (2, .int a2)] []
  refine am_iload_n F 2 dX10_ridden_0 rfl rfl ?_
  refine am_aload_n F 0 dX10_ridden_1 rfl rfl ?_
  refine gf_X10_7 F lyk_174 dX10_ridden_2 ?_
  refine am_iconst F (v := (1 : Int32)) dX10_ridden_5 (by decide) ?_
  obtain ⟨q1, h⟩ := am_ciE h
  refine am_iald F lyk_175 q1 dX10_ridden_6 ?_
  refine am_icmp_lt F (tgt := 12) dX10_ridden_7 (by decide) (fun c8 => ?_) (fun c8 => ?_)
  · have h := (if_pos c8).symm.trans h
    refine am_aload_n F 0 dX10_ridden_12 rfl rfl ?_
    refine gf_X10_7 F lyk_174 dX10_ridden_13 ?_
    refine am_iconst F (v := (2 : Int32)) dX10_ridden_16 (by decide) ?_
    refine am_iconst F (v := (2 : Int32)) dX10_ridden_17 (by decide) ?_
    refine am_iload_n F 2 dX10_ridden_18 rfl rfl ?_
    refine am_imul F dX10_ridden_19 ?_
    refine am_iadd F dX10_ridden_20 ?_
    obtain ⟨q2, h⟩ := am_ciE h
    refine am_iald F lyk_175 q2 dX10_ridden_21 ?_
    refine am_iload_n F 1 dX10_ridden_22 rfl rfl ?_
    refine am_icmp_ne F (tgt := 41) dX10_ridden_23 (by decide) (fun c7 => ?_) (fun c7 => ?_)
    · have h := (if_neg c7).symm.trans h
      refine am_aload_n F 0 dX10_ridden_41 rfl rfl ?_
      refine gf_X10_7 F lyk_174 dX10_ridden_42 ?_
      refine am_iconst F (v := (2 : Int32)) dX10_ridden_45 (by decide) ?_
      refine am_iconst F (v := (2 : Int32)) dX10_ridden_46 (by decide) ?_
      refine am_iload_n F 2 dX10_ridden_47 rfl rfl ?_
      refine am_imul F dX10_ridden_48 ?_
      refine am_iadd F dX10_ridden_49 ?_
      refine am_iconst F (v := (1 : Int32)) dX10_ridden_50 (by decide) ?_
      refine am_iadd F dX10_ridden_51 ?_
      obtain ⟨q3, h⟩ := am_ciE h
      refine am_iald F lyk_175 q3 dX10_ridden_52 ?_
      refine am_iload_n F 1 dX10_ridden_53 rfl rfl ?_
      refine am_icmp_ne F (tgt := 70) dX10_ridden_54 (by decide) (fun c5 => ?_) (fun c5 => ?_)
      · have h := (if_neg c5).symm.trans h
        refine am_iconst F (v := (-1 : Int32)) dX10_ridden_70 (by decide) ?_
        exact am_iret F hr h dX10_ridden_71
      · have h := (if_pos c5).symm.trans h
        refine am_aload_n F 0 dX10_ridden_57 rfl rfl ?_
        refine gf_X10_7 F lyk_174 dX10_ridden_58 ?_
        refine am_iconst F (v := (2 : Int32)) dX10_ridden_61 (by decide) ?_
        refine am_iconst F (v := (2 : Int32)) dX10_ridden_62 (by decide) ?_
        refine am_iload_n F 2 dX10_ridden_63 rfl rfl ?_
        refine am_imul F dX10_ridden_64 ?_
        refine am_iadd F dX10_ridden_65 ?_
        obtain ⟨q4, h⟩ := am_ciE h
        refine am_iald F lyk_175 q4 dX10_ridden_66 ?_
        refine am_goto F (tgt := 71) dX10_ridden_67 (by decide) ?_
        exact am_iret F hr h dX10_ridden_71
    · have h := (if_pos c7).symm.trans h
      refine am_aload_n F 0 dX10_ridden_26 rfl rfl ?_
      refine gf_X10_7 F lyk_174 dX10_ridden_27 ?_
      refine am_iconst F (v := (2 : Int32)) dX10_ridden_30 (by decide) ?_
      refine am_iconst F (v := (2 : Int32)) dX10_ridden_31 (by decide) ?_
      refine am_iload_n F 2 dX10_ridden_32 rfl rfl ?_
      refine am_imul F dX10_ridden_33 ?_
      refine am_iadd F dX10_ridden_34 ?_
      refine am_iconst F (v := (1 : Int32)) dX10_ridden_35 (by decide) ?_
      refine am_iadd F dX10_ridden_36 ?_
      obtain ⟨q6, h⟩ := am_ciE h
      refine am_iald F lyk_175 q6 dX10_ridden_37 ?_
      refine am_goto F (tgt := 71) dX10_ridden_38 (by decide) ?_
      exact am_iret F hr h dX10_ridden_71
  · have h := (if_neg c8).symm.trans h
    refine am_iconst F (v := (-1 : Int32)) dX10_ridden_10 (by decide) ?_
    exact am_iret F hr h dX10_ridden_11
/-! AisleSchedulerModel.moved(II)I -/
abbrev rm_X10_moved : Room := { frames := 2, cells := 0, slots := 0, locals := 46 }
theorem yn_X10_moved : am_yn yX10_moved 2 := ⟨⟨by decide +kernel, by decide +kernel⟩, by decide +kernel⟩
def g_X10_moved (a1 : Int32) (a2 : Int32) (M : am_M) : Option (Int32 × am_M) := (if a2 = (0 : Int32) then (some (a1, M)) else (if a2 = (1 : Int32) then (if (a1 / (8 : Int32)) ≤ (0 : Int32) then (some ((-1 : Int32), M)) else (some ((a1 - (8 : Int32)), M))) else (if a2 = (2 : Int32) then (if (7 : Int32) ≤ (a1 - a1 / (8 : Int32) * (8 : Int32)) then (some ((-1 : Int32), M)) else (some ((a1 + (1 : Int32)), M))) else (if a2 = (3 : Int32) then (if (40 : Int32) ≤ (a1 + (8 : Int32)) then (some ((-1 : Int32), M)) else (some ((a1 + (8 : Int32)), M))) else (if a2 = (4 : Int32) then (if (a1 - a1 / (8 : Int32) * (8 : Int32)) ≤ (0 : Int32) then (some ((-1 : Int32), M)) else (some ((a1 - (1 : Int32)), M))) else (am_b (g_X10_ridden a1 (a2 - (5 : Int32)) M) (fun v12 M11 => (some (v12, M11)))))))))
set_option maxHeartbeats 4000000 in
set_option maxRecDepth 100000 in
theorem c_X10_moved (l : Launch) (D : va_G) (E : Nat → ClassId) (z : Nat) (a1 : Int32) (a2 : Int32) (M : am_M) (r0 : Int32) (M1 : am_M) (h : g_X10_moved a1 a2 M = some (r0, M1)) : am_Mi l yX10_moved cX10_moved 5 (some .int) rm_X10_moved D E z [.ref (z + 174), .int a1, .int a2] M r0 M1 := by
  unfold g_X10_moved at h
  refine am_of (own := RX10) (by decide +kernel) rfl (by exact Nat.le_of_ble_eq_true rfl) ?_
  intro p e s m args below meth c F hr
  show am_W p l e rm_X10_moved s m args below meth c _ 5 D E z 0 0 M 0 [(0, .ref (z + 174)), (1, .int a1), (2, .int a2)] []
  refine am_iload_n F 1 dX10_moved_0 rfl rfl ?_
  refine am_bipush F (v := (8 : Int32)) dX10_moved_1 (by decide) ?_
  refine am_irem F dX10_moved_3 (by decide) ?_
  refine am_istore_n F [(3, .int (a1 - a1 / (8 : Int32) * (8 : Int32))), (0, .ref (z + 174)), (1, .int a1), (2, .int a2)] dX10_moved_4 rfl (by decide) rfl ?_
  refine am_iload_n F 2 dX10_moved_5 rfl rfl ?_
  refine am_bipush F (v := (8 : Int32)) dX10_moved_6 (by decide) ?_
  refine am_idiv F dX10_moved_8 (by decide) ?_
  refine am_istore F [(4, .int (a1 / (8 : Int32))), (3, .int (a1 - a1 / (8 : Int32) * (8 : Int32))), (0, .ref (z + 174)), (1, .int a1), (2, .int a2)] dX10_moved_9 (by decide) rfl ?_
  refine am_iload_n F 4 dX10_moved_11 rfl rfl ?_
  by_cases c1 : a2 = (0 : Int32)
  · have h := (if_pos c1).symm.trans h
    refine am_tabIn F 0 (tgt := 48) dX10_moved_12 (by rw [c1]; decide) rfl rfl (by decide) ?_
    refine am_iload_n F 3 dX10_moved_48 rfl rfl ?_
    exact am_iret F hr h dX10_moved_49
  · have h := (if_neg c1).symm.trans h
    by_cases c2 : a2 = (1 : Int32)
    · have h := (if_pos c2).symm.trans h
      refine am_tabIn F 1 (tgt := 50) dX10_moved_12 (by rw [c2]; decide) rfl rfl (by decide) ?_
      refine am_iload F 0 dX10_moved_50 rfl ?_
      refine am_if_le F (tgt := 62) dX10_moved_52 (by decide) (fun c3 => ?_) (fun c3 => ?_)
      · have h := (if_pos c3).symm.trans h
        refine am_iconst F (v := (-1 : Int32)) dX10_moved_62 (by decide) ?_
        exact am_iret F hr h dX10_moved_63
      · have h := (if_neg c3).symm.trans h
        refine am_iload_n F 3 dX10_moved_55 rfl rfl ?_
        refine am_bipush F (v := (8 : Int32)) dX10_moved_56 (by decide) ?_
        refine am_isub F dX10_moved_58 ?_
        refine am_goto F (tgt := 63) dX10_moved_59 (by decide) ?_
        exact am_iret F hr h dX10_moved_63
    · have h := (if_neg c2).symm.trans h
      by_cases c4 : a2 = (2 : Int32)
      · have h := (if_pos c4).symm.trans h
        refine am_tabIn F 2 (tgt := 64) dX10_moved_12 (by rw [c4]; decide) rfl rfl (by decide) ?_
        refine am_iload_n F 1 dX10_moved_64 rfl rfl ?_
        refine am_bipush F (v := (7 : Int32)) dX10_moved_65 (by decide) ?_
        refine am_icmp_ge F (tgt := 76) dX10_moved_67 (by decide) (fun c5 => ?_) (fun c5 => ?_)
        · have h := (if_pos c5).symm.trans h
          refine am_iconst F (v := (-1 : Int32)) dX10_moved_76 (by decide) ?_
          exact am_iret F hr h dX10_moved_77
        · have h := (if_neg c5).symm.trans h
          refine am_iload_n F 3 dX10_moved_70 rfl rfl ?_
          refine am_iconst F (v := (1 : Int32)) dX10_moved_71 (by decide) ?_
          refine am_iadd F dX10_moved_72 ?_
          refine am_goto F (tgt := 77) dX10_moved_73 (by decide) ?_
          exact am_iret F hr h dX10_moved_77
      · have h := (if_neg c4).symm.trans h
        by_cases c6 : a2 = (3 : Int32)
        · have h := (if_pos c6).symm.trans h
          refine am_tabIn F 3 (tgt := 78) dX10_moved_12 (by rw [c6]; decide) rfl rfl (by decide) ?_
          refine am_iload_n F 3 dX10_moved_78 rfl rfl ?_
          refine am_bipush F (v := (8 : Int32)) dX10_moved_79 (by decide) ?_
          refine am_iadd F dX10_moved_81 ?_
          refine am_bipush F (v := (40 : Int32)) dX10_moved_82 (by decide) ?_
          refine am_icmp_ge F (tgt := 94) dX10_moved_84 (by decide) (fun c7 => ?_) (fun c7 => ?_)
          · have h := (if_pos c7).symm.trans h
            refine am_iconst F (v := (-1 : Int32)) dX10_moved_94 (by decide) ?_
            exact am_iret F hr h dX10_moved_95
          · have h := (if_neg c7).symm.trans h
            refine am_iload_n F 3 dX10_moved_87 rfl rfl ?_
            refine am_bipush F (v := (8 : Int32)) dX10_moved_88 (by decide) ?_
            refine am_iadd F dX10_moved_90 ?_
            refine am_goto F (tgt := 95) dX10_moved_91 (by decide) ?_
            exact am_iret F hr h dX10_moved_95
        · have h := (if_neg c6).symm.trans h
          by_cases c8 : a2 = (4 : Int32)
          · have h := (if_pos c8).symm.trans h
            refine am_tabIn F 4 (tgt := 96) dX10_moved_12 (by rw [c8]; decide) rfl rfl (by decide) ?_
            refine am_iload_n F 1 dX10_moved_96 rfl rfl ?_
            refine am_if_le F (tgt := 106) dX10_moved_97 (by decide) (fun c9 => ?_) (fun c9 => ?_)
            · have h := (if_pos c9).symm.trans h
              refine am_iconst F (v := (-1 : Int32)) dX10_moved_106 (by decide) ?_
              exact am_iret F hr h dX10_moved_107
            · have h := (if_neg c9).symm.trans h
              refine am_iload_n F 3 dX10_moved_100 rfl rfl ?_
              refine am_iconst F (v := (1 : Int32)) dX10_moved_101 (by decide) ?_
              refine am_isub F dX10_moved_102 ?_
              refine am_goto F (tgt := 107) dX10_moved_103 (by decide) ?_
              exact am_iret F hr h dX10_moved_107
          · have h := (if_neg c8).symm.trans h
            have hsw := am_sw (x := a2) (lo := 0) (n := 5) (by decide) (by decide) (fun j hj => match j, hj with | 0, _ => c1 | 1, _ => c2 | 2, _ => c4 | 3, _ => c6 | 4, _ => c8)
            refine am_tabOut F (tgt := 108) dX10_moved_12 (hsw.imp_right (fun h9 => by omega)) (by decide) ?_
            refine am_aload_n F 2 dX10_moved_108 rfl rfl ?_
            refine am_iload_n F 3 dX10_moved_109 rfl rfl ?_
            refine am_iload_n F 4 dX10_moved_110 rfl rfl ?_
            refine am_iconst F (v := (5 : Int32)) dX10_moved_111 (by decide) ?_
            refine am_isub F dX10_moved_112 ?_
            obtain ⟨v12, M11, h10, h⟩ := am_bE h
            refine am_callVi F [.int a1, .int (a2 - (5 : Int32))] lyk_174 (by decide) rfl cw_X10_62 (c_X10_ridden l D E z a1 (a2 - (5 : Int32)) M v12 M11 h10) yn_X10_ridden rfl ⟨Nat.le_of_ble_eq_true rfl, Nat.le_of_ble_eq_true rfl⟩ rfl rfl (Nat.le_of_ble_eq_true rfl) ⟨Nat.zero_le _, Nat.zero_le _⟩ dX10_moved_113 rfl ?_
            exact am_iret F hr h dX10_moved_116
/-! AisleSchedulerModel.takes(I)I -/
abbrev rm_X10_takes : Room := { frames := 1, cells := 0, slots := 0, locals := 24 }
theorem yn_X10_takes : am_yn yX10_takes 1 := ⟨⟨by decide +kernel, by decide +kernel⟩, by decide +kernel⟩
def g_X10_takes (a0 : Int32) (M : am_M) : Option (Int32 × am_M) := (if a0 < (5 : Int32) then (some ((1 : Int32), M)) else (some ((3 : Int32), M)))
set_option maxHeartbeats 4000000 in
set_option maxRecDepth 100000 in
theorem c_X10_takes (l : Launch) (D : va_G) (E : Nat → ClassId) (z : Nat) (a0 : Int32) (M : am_M) (r0 : Int32) (M1 : am_M) (h : g_X10_takes a0 M = some (r0, M1)) : am_Mi l yX10_takes cX10_takes 1 (some .int) rm_X10_takes D E z [.int a0] M r0 M1 := by
  unfold g_X10_takes at h
  refine am_of (own := RX10) (by decide +kernel) rfl (by exact Nat.le_of_ble_eq_true rfl) ?_
  intro p e s m args below meth c F hr
  show am_W p l e rm_X10_takes s m args below meth c _ 1 D E z 0 0 M 0 [(0, .int a0)] []
  refine am_iload_n F 0 dX10_takes_0 rfl rfl ?_
  refine am_iconst F (v := (5 : Int32)) dX10_takes_1 (by decide) ?_
  refine am_icmp_lt F (tgt := 9) dX10_takes_2 (by decide) (fun c1 => ?_) (fun c1 => ?_)
  · have h := (if_pos c1).symm.trans h
    refine am_iconst F (v := (1 : Int32)) dX10_takes_9 (by decide) ?_
    exact am_iret F hr h dX10_takes_10
  · have h := (if_neg c1).symm.trans h
    refine am_iconst F (v := (3 : Int32)) dX10_takes_5 (by decide) ?_
    refine am_goto F (tgt := 10) dX10_takes_6 (by decide) ?_
    exact am_iret F hr h dX10_takes_10
/-! AisleSchedulerModel.costs(I)I -/
abbrev rm_X10_costs : Room := { frames := 1, cells := 0, slots := 0, locals := 24 }
theorem yn_X10_costs : am_yn yX10_costs 1 := ⟨⟨by decide +kernel, by decide +kernel⟩, by decide +kernel⟩
def g_X10_costs (a0 : Int32) (M : am_M) : Option (Int32 × am_M) := (if a0 = (0 : Int32) then (some ((0 : Int32), M)) else (if a0 < (5 : Int32) then (some ((1 : Int32), M)) else (some ((2 : Int32), M))))
set_option maxHeartbeats 4000000 in
set_option maxRecDepth 100000 in
theorem c_X10_costs (l : Launch) (D : va_G) (E : Nat → ClassId) (z : Nat) (a0 : Int32) (M : am_M) (r0 : Int32) (M1 : am_M) (h : g_X10_costs a0 M = some (r0, M1)) : am_Mi l yX10_costs cX10_costs 1 (some .int) rm_X10_costs D E z [.int a0] M r0 M1 := by
  unfold g_X10_costs at h
  refine am_of (own := RX10) (by decide +kernel) rfl (by exact Nat.le_of_ble_eq_true rfl) ?_
  intro p e s m args below meth c F hr
  show am_W p l e rm_X10_costs s m args below meth c _ 1 D E z 0 0 M 0 [(0, .int a0)] []
  refine am_iload_n F 0 dX10_costs_0 rfl rfl ?_
  refine am_if_ne F (tgt := 8) dX10_costs_1 (by decide) (fun c2 => ?_) (fun c2 => ?_)
  · have h := (if_neg c2).symm.trans h
    refine am_iload_n F 0 dX10_costs_8 rfl rfl ?_
    refine am_iconst F (v := (5 : Int32)) dX10_costs_9 (by decide) ?_
    refine am_icmp_lt F (tgt := 17) dX10_costs_10 (by decide) (fun c1 => ?_) (fun c1 => ?_)
    · have h := (if_pos c1).symm.trans h
      refine am_iconst F (v := (1 : Int32)) dX10_costs_17 (by decide) ?_
      exact am_iret F hr h dX10_costs_18
    · have h := (if_neg c1).symm.trans h
      refine am_iconst F (v := (2 : Int32)) dX10_costs_13 (by decide) ?_
      refine am_goto F (tgt := 18) dX10_costs_14 (by decide) ?_
      exact am_iret F hr h dX10_costs_18
  · have h := (if_pos c2).symm.trans h
    refine am_iconst F (v := (0 : Int32)) dX10_costs_4 (by decide) ?_
    refine am_goto F (tgt := 18) dX10_costs_5 (by decide) ?_
    exact am_iret F hr h dX10_costs_18
/-! AisleSchedulerModel.isEnd(I)Z -/
abbrev rm_X10_isEnd : Room := { frames := 1, cells := 0, slots := 0, locals := 24 }
theorem yn_X10_isEnd : am_yn yX10_isEnd 1 := ⟨⟨by decide +kernel, by decide +kernel⟩, by decide +kernel⟩
def g_X10_isEnd_L4 (a1 : Int32) : Nat → Int32 → Int32 → am_M → Option ((Int32) × am_M)
  | 0, _, _, _ => none
  | n + 1, a2, a3, M => (am_ci (1 : Int32) 406 (if ((2 : Int32) * (am_g M 175 (1 : Int32).toNatClampNeg)) ≤ a3 then (some (a2, M)) else (if a2 = (0 : Int32) then (am_ci ((2 : Int32) + a3) 406 (if (am_g M 175 ((2 : Int32) + a3).toNatClampNeg) = a1 then (g_X10_isEnd_L4 a1 n (1 : Int32) (a3 + (1 : Int32)) M) else (g_X10_isEnd_L4 a1 n (0 : Int32) (a3 + (1 : Int32)) M))) else (g_X10_isEnd_L4 a1 n (1 : Int32) (a3 + (1 : Int32)) M))))
set_option maxHeartbeats 4000000 in
set_option maxRecDepth 100000 in
theorem cl_X10_isEnd_L4 {l : Launch} {p : Program} {e : Env} {s : State} {m : MethodId} {args : Array Value} {below : List Frame} {meth : Method} {c : Code} {Q : State → Prop} {D : va_G} {E : Nat → ClassId} {z : Nat} (F : am_F p s m args meth c cX10_isEnd 4 RX10 D E z) (a1 : Int32) : ∀ (n : Nat) (a2 : Int32) (a3 : Int32) (M : am_M) (x : Int32) (M1 : am_M), g_X10_isEnd_L4 a1 n a2 a3 M = some (x, M1) → (am_W p l e rm_X10_isEnd s m args below meth c Q 4 D E z 0 0 M1 44 [(2, .int x)] []) → am_W p l e rm_X10_isEnd s m args below meth c Q 4 D E z 0 0 M 4 [(0, .ref (z + 174)), (1, .int a1), (2, .int a2), (3, .int a3)] [] := by
  intro n
  induction n with
  | zero => intro a2 a3 M x M1 h K; cases h
  | succ n ih =>
    intro a2 a3 M x M1 h K
    rw [g_X10_isEnd_L4] at h
    refine am_iload_n F 3 dX10_isEnd_4 rfl rfl ?_
    refine am_iconst F (v := (2 : Int32)) dX10_isEnd_5 (by decide) ?_
    refine am_aload_n F 0 dX10_isEnd_6 rfl rfl ?_
    refine gf_X10_7 F lyk_174 dX10_isEnd_7 ?_
    refine am_iconst F (v := (1 : Int32)) dX10_isEnd_10 (by decide) ?_
    obtain ⟨q1, h⟩ := am_ciE h
    refine am_iald F lyk_175 q1 dX10_isEnd_11 ?_
    refine am_imul F dX10_isEnd_12 ?_
    refine am_icmp_ge F (tgt := 44) dX10_isEnd_13 (by decide) (fun c5 => ?_) (fun c5 => ?_)
    · have h := (if_pos c5).symm.trans h
      cases h
      exact am_sub (lv' := [(2, .int a2)]) [2] rfl (K)
    · have h := (if_neg c5).symm.trans h
      refine am_iload_n F 2 dX10_isEnd_16 rfl rfl ?_
      refine am_if_ne F (tgt := 32) dX10_isEnd_17 (by decide) (fun c4 => ?_) (fun c4 => ?_)
      · have h := (if_neg c4).symm.trans h
        refine am_iconst F (v := (1 : Int32)) dX10_isEnd_32 (by decide) ?_
        refine am_goto F (tgt := 37) dX10_isEnd_33 (by decide) ?_
        refine am_istore_n F [(2, .int (1 : Int32)), (0, .ref (z + 174)), (1, .int a1), (3, .int a3)] dX10_isEnd_37 rfl (by decide) rfl ?_
        refine am_iinc F [(3, .int (a3 + (1 : Int32))), (2, .int (1 : Int32)), (0, .ref (z + 174)), (1, .int a1)] 3 dX10_isEnd_38 (by decide) rfl rfl rfl ?_
        refine am_goto F (tgt := 4) dX10_isEnd_41 (by decide) ?_
        exact am_sub (lv' := [(0, .ref (z + 174)), (1, .int a1), (2, .int (1 : Int32)), (3, .int (a3 + (1 : Int32)))]) [2, 3, 1, 0] rfl (ih (1 : Int32) (a3 + (1 : Int32)) M _ _ h K)
      · have h := (if_pos c4).symm.trans h
        refine am_aload_n F 0 dX10_isEnd_20 rfl rfl ?_
        refine gf_X10_7 F lyk_174 dX10_isEnd_21 ?_
        refine am_iconst F (v := (2 : Int32)) dX10_isEnd_24 (by decide) ?_
        refine am_iload_n F 3 dX10_isEnd_25 rfl rfl ?_
        refine am_iadd F dX10_isEnd_26 ?_
        obtain ⟨q2, h⟩ := am_ciE h
        refine am_iald F lyk_175 q2 dX10_isEnd_27 ?_
        refine am_iload_n F 1 dX10_isEnd_28 rfl rfl ?_
        refine am_icmp_ne F (tgt := 36) dX10_isEnd_29 (by decide) (fun c3 => ?_) (fun c3 => ?_)
        · have h := (if_neg c3).symm.trans h
          refine am_iconst F (v := (0 : Int32)) dX10_isEnd_36 (by decide) ?_
          refine am_istore_n F [(2, .int (0 : Int32)), (0, .ref (z + 174)), (1, .int a1), (3, .int a3)] dX10_isEnd_37 rfl (by decide) rfl ?_
          refine am_iinc F [(3, .int (a3 + (1 : Int32))), (2, .int (0 : Int32)), (0, .ref (z + 174)), (1, .int a1)] 3 dX10_isEnd_38 (by decide) rfl rfl rfl ?_
          refine am_goto F (tgt := 4) dX10_isEnd_41 (by decide) ?_
          exact am_sub (lv' := [(0, .ref (z + 174)), (1, .int a1), (2, .int (0 : Int32)), (3, .int (a3 + (1 : Int32)))]) [2, 3, 1, 0] rfl (ih (0 : Int32) (a3 + (1 : Int32)) M _ _ h K)
        · have h := (if_pos c3).symm.trans h
          refine am_iconst F (v := (1 : Int32)) dX10_isEnd_32 (by decide) ?_
          refine am_goto F (tgt := 37) dX10_isEnd_33 (by decide) ?_
          refine am_istore_n F [(2, .int (1 : Int32)), (0, .ref (z + 174)), (1, .int a1), (3, .int a3)] dX10_isEnd_37 rfl (by decide) rfl ?_
          refine am_iinc F [(3, .int (a3 + (1 : Int32))), (2, .int (1 : Int32)), (0, .ref (z + 174)), (1, .int a1)] 3 dX10_isEnd_38 (by decide) rfl rfl rfl ?_
          refine am_goto F (tgt := 4) dX10_isEnd_41 (by decide) ?_
          exact am_sub (lv' := [(0, .ref (z + 174)), (1, .int a1), (2, .int (1 : Int32)), (3, .int (a3 + (1 : Int32)))]) [2, 3, 1, 0] rfl (ih (1 : Int32) (a3 + (1 : Int32)) M _ _ h K)
def g_X10_isEnd (a1 : Int32) (M : am_M) : Option (Int32 × am_M) := (am_b (g_X10_isEnd_L4 a1 am_fu (0 : Int32) (0 : Int32) M) (fun x6 M7 => (am_c (x6 = 0 ∨ x6 = 1) (some (x6, M7)))))
set_option maxHeartbeats 4000000 in
set_option maxRecDepth 100000 in
theorem c_X10_isEnd (l : Launch) (D : va_G) (E : Nat → ClassId) (z : Nat) (a1 : Int32) (M : am_M) (r0 : Int32) (M1 : am_M) (h : g_X10_isEnd a1 M = some (r0, M1)) : am_Mi l yX10_isEnd cX10_isEnd 4 (some .boolean) rm_X10_isEnd D E z [.ref (z + 174), .int a1] M r0 M1 := by
  unfold g_X10_isEnd at h
  refine am_of (own := RX10) (by decide +kernel) rfl (by exact Nat.le_of_ble_eq_true rfl) ?_
  intro p e s m args below meth c F hr
  show am_W p l e rm_X10_isEnd s m args below meth c _ 4 D E z 0 0 M 0 [(0, .ref (z + 174)), (1, .int a1)] []
  refine am_iconst F (v := (0 : Int32)) dX10_isEnd_0 (by decide) ?_
  refine am_istore_n F [(2, .int (0 : Int32)), (0, .ref (z + 174)), (1, .int a1)] dX10_isEnd_1 rfl (by decide) rfl ?_
  refine am_iconst F (v := (0 : Int32)) dX10_isEnd_2 (by decide) ?_
  refine am_istore_n F [(3, .int (0 : Int32)), (2, .int (0 : Int32)), (0, .ref (z + 174)), (1, .int a1)] dX10_isEnd_3 rfl (by decide) rfl ?_
  obtain ⟨x6, M7, h8, h⟩ := am_bE h
  refine am_sub (lv' := [(0, .ref (z + 174)), (1, .int a1), (2, .int (0 : Int32)), (3, .int (0 : Int32))]) [2, 3, 1, 0] rfl (cl_X10_isEnd_L4 F a1 am_fu (0 : Int32) (0 : Int32) M x6 M7 h8 ?_)
  refine am_iload_n F 0 dX10_isEnd_44 rfl rfl ?_
  obtain ⟨q9, h⟩ := am_cE h
  exact am_zret F hr q9 h dX10_isEnd_45
/-! AisleSchedulerModel.foresees(I)V -/
abbrev rm_X10_foresees : Room := { frames := 3, cells := 0, slots := 0, locals := 70 }
theorem yn_X10_foresees : am_yn yX10_foresees 1 := ⟨⟨by decide +kernel, by decide +kernel⟩, by decide +kernel⟩
def g_X10_foresees_J99 (rc : Int32 → Int32 → Int32 → Int32 → am_M → Option ((Unit) × am_M)) (a1 : Int32) (a2 : Int32) (a3 : Int32) (a4 : Int32) (a5 : Int32) (a6 : Int32) (as1 : Int32) (as2 : Int32) (M : am_M) : Option ((Unit) × am_M) := (am_ci as1 155 (am_b (g_X10_takes a6 (am_s M 181 as1.toNatClampNeg as2)) (fun v14 M13 => (if (a4 + (1 : Int32)) = v14 then (am_b (g_X10_moved a2 a6 M13) (fun v17 M16 => (rc v17 (a3 + (1 : Int32)) (0 : Int32) (a5 + (1 : Int32)) M16))) else (rc a2 a3 (a4 + (1 : Int32)) (a5 + (1 : Int32)) M13)))))
set_option maxHeartbeats 4000000 in
set_option maxRecDepth 100000 in
theorem cj_X10_foresees_J99 {l : Launch} {p : Program} {e : Env} {s : State} {m : MethodId} {args : Array Value} {below : List Frame} {meth : Method} {c : Code} {Q : State → Prop} {D : va_G} {E : Nat → ClassId} {z : Nat} (F : am_F p s m args meth c cX10_foresees 7 RX10 D E z) (rc : Int32 → Int32 → Int32 → Int32 → am_M → Option ((Unit) × am_M)) (a1 : Int32) (a2 : Int32) (a3 : Int32) (a4 : Int32) (a5 : Int32) (a6 : Int32) (as1 : Int32) (as2 : Int32) (M : am_M) (x : Unit) (M1 : am_M) (h : g_X10_foresees_J99 rc a1 a2 a3 a4 a5 a6 as1 as2 M = some (x, M1)) (HR : ∀ (b2 : Int32) (b3 : Int32) (b4 : Int32) (b5 : Int32) (M2 : am_M), rc b2 b3 b4 b5 M2 = some (x, M1) → am_W p l e rm_X10_foresees s m args below meth c Q 7 D E z 0 0 M2 20 [(0, .ref (z + 174)), (1, .int a1), (2, .int b2), (3, .int b3), (4, .int b4), (5, .int b5)] []) (K : am_W p l e rm_X10_foresees s m args below meth c Q 7 D E z 0 0 M1 133 [] []) : am_W p l e rm_X10_foresees s m args below meth c Q 7 D E z 0 0 M 99 [(0, .ref (z + 174)), (1, .int a1), (2, .int a2), (3, .int a3), (4, .int a4), (5, .int a5), (6, .int a6)] [.int as2, .int as1, .ref (z + 181)] := by
  unfold g_X10_foresees_J99 at h
  obtain ⟨q11, h⟩ := am_ciE h
  refine am_iast F lyk_181 q11 dX10_foresees_99 ?_
  refine am_iinc F [(4, .int (a4 + (1 : Int32))), (0, .ref (z + 174)), (1, .int a1), (2, .int a2), (3, .int a3), (5, .int a5), (6, .int a6)] 4 dX10_foresees_100 (by decide) rfl rfl rfl ?_
  refine am_iload F 0 dX10_foresees_103 rfl ?_
  refine am_iload F 6 dX10_foresees_105 rfl ?_
  obtain ⟨v14, M13, h12, h⟩ := am_bE h
  refine am_callSi F [.int a6] cw_X10_68 rfl (c_X10_takes l D E z a6 (am_s M 181 as1.toNatClampNeg as2) v14 M13 h12) yn_X10_takes rfl ⟨Nat.le_of_ble_eq_true rfl, Nat.le_of_ble_eq_true rfl⟩ rfl rfl (Nat.le_of_ble_eq_true rfl) ⟨Nat.zero_le _, Nat.zero_le _⟩ dX10_foresees_107 rfl ?_
  refine am_icmp_ne F (tgt := 127) dX10_foresees_110 (by decide) (fun c18 => ?_) (fun c18 => ?_)
  · have h := (if_neg c18).symm.trans h
    refine am_iinc F [(5, .int (a5 + (1 : Int32))), (4, .int (a4 + (1 : Int32))), (0, .ref (z + 174)), (1, .int a1), (2, .int a2), (3, .int a3), (6, .int a6)] 5 dX10_foresees_127 (by decide) rfl rfl rfl ?_
    refine am_goto F (tgt := 20) dX10_foresees_130 (by decide) ?_
    exact am_sub (lv' := [(0, .ref (z + 174)), (1, .int a1), (2, .int a2), (3, .int a3), (4, .int (a4 + (1 : Int32))), (5, .int (a5 + (1 : Int32)))]) [2, 3, 4, 5, 1, 0] rfl (HR a2 a3 (a4 + (1 : Int32)) (a5 + (1 : Int32)) M13 h)
  · have h := (if_pos c18).symm.trans h
    refine am_aload_n F 1 dX10_foresees_113 rfl rfl ?_
    refine am_iload_n F 3 dX10_foresees_114 rfl rfl ?_
    refine am_iload F 6 dX10_foresees_115 rfl ?_
    obtain ⟨v17, M16, h15, h⟩ := am_bE h
    refine am_callVi F [.int a2, .int a6] lyk_174 (by decide) rfl cw_X10_72 (c_X10_moved l D E z a2 a6 M13 v17 M16 h15) yn_X10_moved rfl ⟨Nat.le_of_ble_eq_true rfl, Nat.le_of_ble_eq_true rfl⟩ rfl rfl (Nat.le_of_ble_eq_true rfl) ⟨Nat.zero_le _, Nat.zero_le _⟩ dX10_foresees_117 rfl ?_
    refine am_istore_n F [(2, .int v17), (4, .int (a4 + (1 : Int32))), (0, .ref (z + 174)), (1, .int a1), (3, .int a3), (5, .int a5), (6, .int a6)] dX10_foresees_120 rfl (by decide) rfl ?_
    refine am_iconst F (v := (0 : Int32)) dX10_foresees_121 (by decide) ?_
    refine am_istore F [(4, .int (0 : Int32)), (2, .int v17), (0, .ref (z + 174)), (1, .int a1), (3, .int a3), (5, .int a5), (6, .int a6)] dX10_foresees_122 (by decide) rfl ?_
    refine am_iinc F [(3, .int (a3 + (1 : Int32))), (4, .int (0 : Int32)), (2, .int v17), (0, .ref (z + 174)), (1, .int a1), (5, .int a5), (6, .int a6)] 4 dX10_foresees_124 (by decide) rfl rfl rfl ?_
    refine am_iinc F [(5, .int (a5 + (1 : Int32))), (3, .int (a3 + (1 : Int32))), (4, .int (0 : Int32)), (2, .int v17), (0, .ref (z + 174)), (1, .int a1), (6, .int a6)] 5 dX10_foresees_127 (by decide) rfl rfl rfl ?_
    refine am_goto F (tgt := 20) dX10_foresees_130 (by decide) ?_
    exact am_sub (lv' := [(0, .ref (z + 174)), (1, .int a1), (2, .int v17), (3, .int (a3 + (1 : Int32))), (4, .int (0 : Int32)), (5, .int (a5 + (1 : Int32)))]) [4, 5, 3, 1, 2, 0] rfl (HR v17 (a3 + (1 : Int32)) (0 : Int32) (a5 + (1 : Int32)) M16 h)
def g_X10_foresees_J73 (rc : Int32 → Int32 → Int32 → Int32 → am_M → Option ((Unit) × am_M)) (a1 : Int32) (a2 : Int32) (a3 : Int32) (a4 : Int32) (a5 : Int32) (a6 : Int32) (as1 : Int32) (as2 : Int32) (M : am_M) : Option ((Unit) × am_M) := (am_ci as1 155 (if a6 < (5 : Int32) then (g_X10_foresees_J99 rc a1 a2 a3 a4 a5 a6 (((31 : Int32) * a1) + a5) (-1 : Int32) (am_s M 180 as1.toNatClampNeg as2)) else (g_X10_foresees_J99 rc a1 a2 a3 a4 a5 a6 (((31 : Int32) * a1) + a5) (a6 - (5 : Int32)) (am_s M 180 as1.toNatClampNeg as2))))
set_option maxHeartbeats 4000000 in
set_option maxRecDepth 100000 in
theorem cj_X10_foresees_J73 {l : Launch} {p : Program} {e : Env} {s : State} {m : MethodId} {args : Array Value} {below : List Frame} {meth : Method} {c : Code} {Q : State → Prop} {D : va_G} {E : Nat → ClassId} {z : Nat} (F : am_F p s m args meth c cX10_foresees 7 RX10 D E z) (rc : Int32 → Int32 → Int32 → Int32 → am_M → Option ((Unit) × am_M)) (a1 : Int32) (a2 : Int32) (a3 : Int32) (a4 : Int32) (a5 : Int32) (a6 : Int32) (as1 : Int32) (as2 : Int32) (M : am_M) (x : Unit) (M1 : am_M) (h : g_X10_foresees_J73 rc a1 a2 a3 a4 a5 a6 as1 as2 M = some (x, M1)) (HR : ∀ (b2 : Int32) (b3 : Int32) (b4 : Int32) (b5 : Int32) (M2 : am_M), rc b2 b3 b4 b5 M2 = some (x, M1) → am_W p l e rm_X10_foresees s m args below meth c Q 7 D E z 0 0 M2 20 [(0, .ref (z + 174)), (1, .int a1), (2, .int b2), (3, .int b3), (4, .int b4), (5, .int b5)] []) (K : am_W p l e rm_X10_foresees s m args below meth c Q 7 D E z 0 0 M1 133 [] []) : am_W p l e rm_X10_foresees s m args below meth c Q 7 D E z 0 0 M 73 [(0, .ref (z + 174)), (1, .int a1), (2, .int a2), (3, .int a3), (4, .int a4), (5, .int a5), (6, .int a6)] [.int as2, .int as1, .ref (z + 180)] := by
  unfold g_X10_foresees_J73 at h
  obtain ⟨q10, h⟩ := am_ciE h
  refine am_iast F lyk_180 q10 dX10_foresees_73 ?_
  refine am_aload_n F 0 dX10_foresees_74 rfl rfl ?_
  refine gf_X10_32 F lyk_174 dX10_foresees_75 ?_
  refine am_bipush F (v := (31 : Int32)) dX10_foresees_78 (by decide) ?_
  refine am_iload_n F 1 dX10_foresees_80 rfl rfl ?_
  refine am_imul F dX10_foresees_81 ?_
  refine am_iload F 5 dX10_foresees_82 rfl ?_
  refine am_iadd F dX10_foresees_84 ?_
  refine am_iload F 6 dX10_foresees_85 rfl ?_
  refine am_iconst F (v := (5 : Int32)) dX10_foresees_87 (by decide) ?_
  refine am_icmp_lt F (tgt := 98) dX10_foresees_88 (by decide) (fun c19 => ?_) (fun c19 => ?_)
  · have h := (if_pos c19).symm.trans h
    refine am_iconst F (v := (-1 : Int32)) dX10_foresees_98 (by decide) ?_
    exact am_sub (lv' := [(0, .ref (z + 174)), (1, .int a1), (2, .int a2), (3, .int a3), (4, .int a4), (5, .int a5), (6, .int a6)]) [0, 1, 2, 3, 4, 5, 6] rfl (cj_X10_foresees_J99 F rc a1 a2 a3 a4 a5 a6 (((31 : Int32) * a1) + a5) (-1 : Int32) (am_s M 180 as1.toNatClampNeg as2) _ _ h HR K)
  · have h := (if_neg c19).symm.trans h
    refine am_iload F 6 dX10_foresees_91 rfl ?_
    refine am_iconst F (v := (5 : Int32)) dX10_foresees_93 (by decide) ?_
    refine am_isub F dX10_foresees_94 ?_
    refine am_goto F (tgt := 99) dX10_foresees_95 (by decide) ?_
    exact am_sub (lv' := [(0, .ref (z + 174)), (1, .int a1), (2, .int a2), (3, .int a3), (4, .int a4), (5, .int a5), (6, .int a6)]) [0, 1, 2, 3, 4, 5, 6] rfl (cj_X10_foresees_J99 F rc a1 a2 a3 a4 a5 a6 (((31 : Int32) * a1) + a5) (a6 - (5 : Int32)) (am_s M 180 as1.toNatClampNeg as2) _ _ h HR K)
def g_X10_foresees_J47 (rc : Int32 → Int32 → Int32 → Int32 → am_M → Option ((Unit) × am_M)) (a1 : Int32) (a2 : Int32) (a3 : Int32) (a4 : Int32) (a5 : Int32) (as0 : Int32) (M : am_M) : Option ((Unit) × am_M) := (if a4 ≤ (0 : Int32) then (g_X10_foresees_J73 rc a1 a2 a3 a4 a5 as0 (((31 : Int32) * a1) + a5) a2 M) else (g_X10_foresees_J73 rc a1 a2 a3 a4 a5 as0 (((31 : Int32) * a1) + a5) ((4 : Int32) - as0) M))
set_option maxHeartbeats 4000000 in
set_option maxRecDepth 100000 in
theorem cj_X10_foresees_J47 {l : Launch} {p : Program} {e : Env} {s : State} {m : MethodId} {args : Array Value} {below : List Frame} {meth : Method} {c : Code} {Q : State → Prop} {D : va_G} {E : Nat → ClassId} {z : Nat} (F : am_F p s m args meth c cX10_foresees 7 RX10 D E z) (rc : Int32 → Int32 → Int32 → Int32 → am_M → Option ((Unit) × am_M)) (a1 : Int32) (a2 : Int32) (a3 : Int32) (a4 : Int32) (a5 : Int32) (as0 : Int32) (M : am_M) (x : Unit) (M1 : am_M) (h : g_X10_foresees_J47 rc a1 a2 a3 a4 a5 as0 M = some (x, M1)) (HR : ∀ (b2 : Int32) (b3 : Int32) (b4 : Int32) (b5 : Int32) (M2 : am_M), rc b2 b3 b4 b5 M2 = some (x, M1) → am_W p l e rm_X10_foresees s m args below meth c Q 7 D E z 0 0 M2 20 [(0, .ref (z + 174)), (1, .int a1), (2, .int b2), (3, .int b3), (4, .int b4), (5, .int b5)] []) (K : am_W p l e rm_X10_foresees s m args below meth c Q 7 D E z 0 0 M1 133 [] []) : am_W p l e rm_X10_foresees s m args below meth c Q 7 D E z 0 0 M 47 [(0, .ref (z + 174)), (1, .int a1), (2, .int a2), (3, .int a3), (4, .int a4), (5, .int a5)] [.int as0] := by
  unfold g_X10_foresees_J47 at h
  refine am_istore F [(6, .int as0), (0, .ref (z + 174)), (1, .int a1), (2, .int a2), (3, .int a3), (4, .int a4), (5, .int a5)] dX10_foresees_47 (by decide) rfl ?_
  refine am_aload_n F 1 dX10_foresees_49 rfl rfl ?_
  refine gf_X10_29 F lyk_174 dX10_foresees_50 ?_
  refine am_bipush F (v := (31 : Int32)) dX10_foresees_53 (by decide) ?_
  refine am_iload_n F 2 dX10_foresees_55 rfl rfl ?_
  refine am_imul F dX10_foresees_56 ?_
  refine am_iload F 6 dX10_foresees_57 rfl ?_
  refine am_iadd F dX10_foresees_59 ?_
  refine am_iload F 5 dX10_foresees_60 rfl ?_
  refine am_if_le F (tgt := 72) dX10_foresees_62 (by decide) (fun c20 => ?_) (fun c20 => ?_)
  · have h := (if_pos c20).symm.trans h
    refine am_iload_n F 3 dX10_foresees_72 rfl rfl ?_
    exact am_sub (lv' := [(0, .ref (z + 174)), (1, .int a1), (2, .int a2), (3, .int a3), (4, .int a4), (5, .int a5), (6, .int as0)]) [1, 2, 3, 4, 5, 6, 0] rfl (cj_X10_foresees_J73 F rc a1 a2 a3 a4 a5 as0 (((31 : Int32) * a1) + a5) a2 M _ _ h HR K)
  · have h := (if_neg c20).symm.trans h
    refine am_iconst F (v := (4 : Int32)) dX10_foresees_65 (by decide) ?_
    refine am_iload F 0 dX10_foresees_66 rfl ?_
    refine am_isub F dX10_foresees_68 ?_
    refine am_goto F (tgt := 73) dX10_foresees_69 (by decide) ?_
    exact am_sub (lv' := [(0, .ref (z + 174)), (1, .int a1), (2, .int a2), (3, .int a3), (4, .int a4), (5, .int a5), (6, .int as0)]) [1, 2, 3, 4, 5, 6, 0] rfl (cj_X10_foresees_J73 F rc a1 a2 a3 a4 a5 as0 (((31 : Int32) * a1) + a5) ((4 : Int32) - as0) M _ _ h HR K)
def g_X10_foresees_L20 (a1 : Int32) : Nat → Int32 → Int32 → Int32 → Int32 → am_M → Option ((Unit) × am_M)
  | 0, _, _, _, _, _ => none
  | n + 1, a2, a3, a4, a5, M => (if (31 : Int32) ≤ a5 then (some ((), M)) else (am_b (g_X10_of a1 (2 : Int32) M) (fun v9 M8 => (if v9 ≤ a3 then (g_X10_foresees_J47 (g_X10_foresees_L20 a1 n) a1 a2 a3 a4 a5 (0 : Int32) M8) else (am_b (g_X10_act a1 a3 M8) (fun v23 M22 => (g_X10_foresees_J47 (g_X10_foresees_L20 a1 n) a1 a2 a3 a4 a5 v23 M22)))))))
set_option maxHeartbeats 4000000 in
set_option maxRecDepth 100000 in
theorem cl_X10_foresees_L20 {l : Launch} {p : Program} {e : Env} {s : State} {m : MethodId} {args : Array Value} {below : List Frame} {meth : Method} {c : Code} {Q : State → Prop} {D : va_G} {E : Nat → ClassId} {z : Nat} (F : am_F p s m args meth c cX10_foresees 7 RX10 D E z) (a1 : Int32) : ∀ (n : Nat) (a2 : Int32) (a3 : Int32) (a4 : Int32) (a5 : Int32) (M : am_M) (x : Unit) (M1 : am_M), g_X10_foresees_L20 a1 n a2 a3 a4 a5 M = some (x, M1) → (am_W p l e rm_X10_foresees s m args below meth c Q 7 D E z 0 0 M1 133 [] []) → am_W p l e rm_X10_foresees s m args below meth c Q 7 D E z 0 0 M 20 [(0, .ref (z + 174)), (1, .int a1), (2, .int a2), (3, .int a3), (4, .int a4), (5, .int a5)] [] := by
  intro n
  induction n with
  | zero => intro a2 a3 a4 a5 M x M1 h K; cases h
  | succ n ih =>
    intro a2 a3 a4 a5 M x M1 h K
    rw [g_X10_foresees_L20] at h
    refine am_iload F 5 dX10_foresees_20 rfl ?_
    refine am_bipush F (v := (31 : Int32)) dX10_foresees_22 (by decide) ?_
    refine am_icmp_ge F (tgt := 133) dX10_foresees_24 (by decide) (fun c25 => ?_) (fun c25 => ?_)
    · have h := (if_pos c25).symm.trans h
      cases h
      exact am_sub (lv' := []) [] rfl (K)
    · have h := (if_neg c25).symm.trans h
      refine am_iload_n F 3 dX10_foresees_27 rfl rfl ?_
      refine am_aload_n F 0 dX10_foresees_28 rfl rfl ?_
      refine am_iload_n F 1 dX10_foresees_29 rfl rfl ?_
      refine am_iconst F (v := (2 : Int32)) dX10_foresees_30 (by decide) ?_
      obtain ⟨v9, M8, h7, h⟩ := am_bE h
      refine am_callVi F [.int a1, .int (2 : Int32)] lyk_174 (by decide) rfl cw_X10_58 (c_X10_of l D E z a1 (2 : Int32) M v9 M8 h7) yn_X10_of rfl ⟨Nat.le_of_ble_eq_true rfl, Nat.le_of_ble_eq_true rfl⟩ rfl rfl (Nat.le_of_ble_eq_true rfl) ⟨Nat.zero_le _, Nat.zero_le _⟩ dX10_foresees_31 rfl ?_
      refine am_icmp_ge F (tgt := 46) dX10_foresees_34 (by decide) (fun c24 => ?_) (fun c24 => ?_)
      · have h := (if_pos c24).symm.trans h
        refine am_iconst F (v := (0 : Int32)) dX10_foresees_46 (by decide) ?_
        exact am_sub (lv' := [(0, .ref (z + 174)), (1, .int a1), (2, .int a2), (3, .int a3), (4, .int a4), (5, .int a5)]) [0, 1, 2, 3, 4, 5] rfl (cj_X10_foresees_J47 F (g_X10_foresees_L20 a1 n) a1 a2 a3 a4 a5 (0 : Int32) M8 _ _ h (fun b2 b3 b4 b5 M2 h2 => ih b2 b3 b4 b5 M2 _ _ h2 K) K)
      · have h := (if_neg c24).symm.trans h
        refine am_aload_n F 0 dX10_foresees_37 rfl rfl ?_
        refine am_iload_n F 1 dX10_foresees_38 rfl rfl ?_
        refine am_iload_n F 3 dX10_foresees_39 rfl rfl ?_
        obtain ⟨v23, M22, h21, h⟩ := am_bE h
        refine am_callVi F [.int a1, .int a3] lyk_174 (by decide) rfl cw_X10_65 (c_X10_act l D E z a1 a3 M8 v23 M22 h21) yn_X10_act rfl ⟨Nat.le_of_ble_eq_true rfl, Nat.le_of_ble_eq_true rfl⟩ rfl rfl (Nat.le_of_ble_eq_true rfl) ⟨Nat.zero_le _, Nat.zero_le _⟩ dX10_foresees_40 rfl ?_
        refine am_goto F (tgt := 47) dX10_foresees_43 (by decide) ?_
        exact am_sub (lv' := [(0, .ref (z + 174)), (1, .int a1), (2, .int a2), (3, .int a3), (4, .int a4), (5, .int a5)]) [0, 1, 2, 3, 4, 5] rfl (cj_X10_foresees_J47 F (g_X10_foresees_L20 a1 n) a1 a2 a3 a4 a5 v23 M22 _ _ h (fun b2 b3 b4 b5 M2 h2 => ih b2 b3 b4 b5 M2 _ _ h2 K) K)
def g_X10_foresees (a1 : Int32) (M : am_M) : Option (Unit × am_M) := (am_b (g_X10_of a1 (0 : Int32) M) (fun v3 M2 => (am_b (g_X10_of a1 (3 : Int32) M2) (fun v6 M5 => (am_b (g_X10_foresees_L20 a1 am_fu v3 (0 : Int32) v6 (0 : Int32) M5) (fun x26 M27 => (some ((), M27))))))))
set_option maxHeartbeats 4000000 in
set_option maxRecDepth 100000 in
theorem c_X10_foresees (l : Launch) (D : va_G) (E : Nat → ClassId) (z : Nat) (a1 : Int32) (M : am_M)  (M1 : am_M) (h : g_X10_foresees a1 M = some ((), M1)) : am_Mv l yX10_foresees cX10_foresees 7 none rm_X10_foresees D E z [.ref (z + 174), .int a1] M M1 := by
  unfold g_X10_foresees at h
  refine am_of (own := RX10) (by decide +kernel) rfl (by exact Nat.le_of_ble_eq_true rfl) ?_
  intro p e s m args below meth c F hr
  show am_W p l e rm_X10_foresees s m args below meth c _ 7 D E z 0 0 M 0 [(0, .ref (z + 174)), (1, .int a1)] []
  refine am_aload_n F 0 dX10_foresees_0 rfl rfl ?_
  refine am_iload_n F 1 dX10_foresees_1 rfl rfl ?_
  refine am_iconst F (v := (0 : Int32)) dX10_foresees_2 (by decide) ?_
  obtain ⟨v3, M2, h1, h⟩ := am_bE h
  refine am_callVi F [.int a1, .int (0 : Int32)] lyk_174 (by decide) rfl cw_X10_58 (c_X10_of l D E z a1 (0 : Int32) M v3 M2 h1) yn_X10_of rfl ⟨Nat.le_of_ble_eq_true rfl, Nat.le_of_ble_eq_true rfl⟩ rfl rfl (Nat.le_of_ble_eq_true rfl) ⟨Nat.zero_le _, Nat.zero_le _⟩ dX10_foresees_3 rfl ?_
  refine am_istore_n F [(2, .int v3), (0, .ref (z + 174)), (1, .int a1)] dX10_foresees_6 rfl (by decide) rfl ?_
  refine am_iconst F (v := (0 : Int32)) dX10_foresees_7 (by decide) ?_
  refine am_istore_n F [(3, .int (0 : Int32)), (2, .int v3), (0, .ref (z + 174)), (1, .int a1)] dX10_foresees_8 rfl (by decide) rfl ?_
  refine am_aload_n F 2 dX10_foresees_9 rfl rfl ?_
  refine am_iload_n F 3 dX10_foresees_10 rfl rfl ?_
  refine am_iconst F (v := (3 : Int32)) dX10_foresees_11 (by decide) ?_
  obtain ⟨v6, M5, h4, h⟩ := am_bE h
  refine am_callVi F [.int a1, .int (3 : Int32)] lyk_174 (by decide) rfl cw_X10_58 (c_X10_of l D E z a1 (3 : Int32) M2 v6 M5 h4) yn_X10_of rfl ⟨Nat.le_of_ble_eq_true rfl, Nat.le_of_ble_eq_true rfl⟩ rfl rfl (Nat.le_of_ble_eq_true rfl) ⟨Nat.zero_le _, Nat.zero_le _⟩ dX10_foresees_12 rfl ?_
  refine am_istore F [(4, .int v6), (3, .int (0 : Int32)), (2, .int v3), (0, .ref (z + 174)), (1, .int a1)] dX10_foresees_15 (by decide) rfl ?_
  refine am_iconst F (v := (0 : Int32)) dX10_foresees_17 (by decide) ?_
  refine am_istore F [(5, .int (0 : Int32)), (4, .int v6), (3, .int (0 : Int32)), (2, .int v3), (0, .ref (z + 174)), (1, .int a1)] dX10_foresees_18 (by decide) rfl ?_
  obtain ⟨x26, M27, h28, h⟩ := am_bE h
  refine am_sub (lv' := [(0, .ref (z + 174)), (1, .int a1), (2, .int v3), (3, .int (0 : Int32)), (4, .int v6), (5, .int (0 : Int32))]) [4, 5, 3, 2, 1, 0] rfl (cl_X10_foresees_L20 F a1 am_fu v3 (0 : Int32) v6 (0 : Int32) M5 x26 M27 h28 ?_)
  exact am_vret F hr h dX10_foresees_133
/-! AisleSchedulerModel.allForeseen()V -/
abbrev rm_X10_allForeseen : Room := { frames := 4, cells := 0, slots := 0, locals := 96 }
theorem yn_X10_allForeseen : am_yn yX10_allForeseen 0 := ⟨⟨by decide +kernel, by decide +kernel⟩, by decide +kernel⟩
def g_X10_allForeseen_L2  : Nat → Int32 → am_M → Option ((Unit) × am_M)
  | 0, _, _ => none
  | n + 1, a1, M => (am_ci (6 : Int32) 406 (if (am_g M 175 (6 : Int32).toNatClampNeg) ≤ a1 then (some ((), M)) else (am_b (g_X10_foresees a1 M) (fun _ M3 => (g_X10_allForeseen_L2  n (a1 + (1 : Int32)) M3)))))
set_option maxHeartbeats 4000000 in
set_option maxRecDepth 100000 in
theorem cl_X10_allForeseen_L2 {l : Launch} {p : Program} {e : Env} {s : State} {m : MethodId} {args : Array Value} {below : List Frame} {meth : Method} {c : Code} {Q : State → Prop} {D : va_G} {E : Nat → ClassId} {z : Nat} (F : am_F p s m args meth c cX10_allForeseen 2 RX10 D E z)  : ∀ (n : Nat) (a1 : Int32) (M : am_M) (x : Unit) (M1 : am_M), g_X10_allForeseen_L2  n a1 M = some (x, M1) → (am_W p l e rm_X10_allForeseen s m args below meth c Q 2 D E z 0 0 M1 24 [] []) → am_W p l e rm_X10_allForeseen s m args below meth c Q 2 D E z 0 0 M 2 [(0, .ref (z + 174)), (1, .int a1)] [] := by
  intro n
  induction n with
  | zero => intro a1 M x M1 h K; cases h
  | succ n ih =>
    intro a1 M x M1 h K
    rw [g_X10_allForeseen_L2] at h
    refine am_iload_n F 1 dX10_allForeseen_2 rfl rfl ?_
    refine am_aload_n F 0 dX10_allForeseen_3 rfl rfl ?_
    refine gf_X10_7 F lyk_174 dX10_allForeseen_4 ?_
    refine am_bipush F (v := (6 : Int32)) dX10_allForeseen_7 (by decide) ?_
    obtain ⟨q1, h⟩ := am_ciE h
    refine am_iald F lyk_175 q1 dX10_allForeseen_9 ?_
    refine am_icmp_ge F (tgt := 24) dX10_allForeseen_10 (by decide) (fun c4 => ?_) (fun c4 => ?_)
    · have h := (if_pos c4).symm.trans h
      cases h
      exact am_sub (lv' := []) [] rfl (K)
    · have h := (if_neg c4).symm.trans h
      refine am_aload_n F 0 dX10_allForeseen_13 rfl rfl ?_
      refine am_iload_n F 1 dX10_allForeseen_14 rfl rfl ?_
      obtain ⟨_, M3, h2, h⟩ := am_bE h
      refine am_callVv F [.int a1] lyk_174 (by decide) rfl cw_X10_75 (c_X10_foresees l D E z a1 M M3 h2) yn_X10_foresees rfl ⟨Nat.le_of_ble_eq_true rfl, Nat.le_of_ble_eq_true rfl⟩ rfl rfl (Nat.le_of_ble_eq_true rfl) ⟨Nat.zero_le _, Nat.zero_le _⟩ dX10_allForeseen_15 rfl ?_
      refine am_iinc F [(1, .int (a1 + (1 : Int32))), (0, .ref (z + 174))] 1 dX10_allForeseen_18 (by decide) rfl rfl rfl ?_
      refine am_goto F (tgt := 2) dX10_allForeseen_21 (by decide) ?_
      exact am_sub (lv' := [(0, .ref (z + 174)), (1, .int (a1 + (1 : Int32)))]) [1, 0] rfl (ih (a1 + (1 : Int32)) M3 _ _ h K)
def g_X10_allForeseen  (M : am_M) : Option (Unit × am_M) := (am_b (g_X10_allForeseen_L2  am_fu (0 : Int32) M) (fun x5 M6 => (some ((), M6))))
set_option maxHeartbeats 4000000 in
set_option maxRecDepth 100000 in
theorem c_X10_allForeseen (l : Launch) (D : va_G) (E : Nat → ClassId) (z : Nat)  (M : am_M)  (M1 : am_M) (h : g_X10_allForeseen  M = some ((), M1)) : am_Mv l yX10_allForeseen cX10_allForeseen 2 none rm_X10_allForeseen D E z [.ref (z + 174)] M M1 := by
  unfold g_X10_allForeseen at h
  refine am_of (own := RX10) (by decide +kernel) rfl (by exact Nat.le_of_ble_eq_true rfl) ?_
  intro p e s m args below meth c F hr
  show am_W p l e rm_X10_allForeseen s m args below meth c _ 2 D E z 0 0 M 0 [(0, .ref (z + 174))] []
  refine am_iconst F (v := (0 : Int32)) dX10_allForeseen_0 (by decide) ?_
  refine am_istore_n F [(1, .int (0 : Int32)), (0, .ref (z + 174))] dX10_allForeseen_1 rfl (by decide) rfl ?_
  obtain ⟨x5, M6, h7, h⟩ := am_bE h
  refine am_sub (lv' := [(0, .ref (z + 174)), (1, .int (0 : Int32))]) [1, 0] rfl (cl_X10_allForeseen_L2 F  am_fu (0 : Int32) M x5 M6 h7 ?_)
  exact am_vret F hr h dX10_allForeseen_24
/-! AisleSchedulerModel.ticksLeft(I)I -/
abbrev rm_X10_ticksLeft : Room := { frames := 3, cells := 0, slots := 0, locals := 68 }
theorem yn_X10_ticksLeft : am_yn yX10_ticksLeft 1 := ⟨⟨by decide +kernel, by decide +kernel⟩, by decide +kernel⟩
def g_X10_ticksLeft_L10 (a1 : Int32) : Nat → Int32 → Int32 → am_M → Option ((Int32) × am_M)
  | 0, _, _, _ => none
  | n + 1, a2, a3, M => (am_b (g_X10_of a1 (2 : Int32) M) (fun v6 M5 => (if v6 ≤ a3 then (some (a2, M5)) else (am_b (g_X10_act a1 a3 M5) (fun v9 M8 => (am_b (g_X10_takes v9 M8) (fun v12 M11 => (g_X10_ticksLeft_L10 a1 n (a2 + v12) (a3 + (1 : Int32)) M11))))))))
set_option maxHeartbeats 4000000 in
set_option maxRecDepth 100000 in
theorem cl_X10_ticksLeft_L10 {l : Launch} {p : Program} {e : Env} {s : State} {m : MethodId} {args : Array Value} {below : List Frame} {meth : Method} {c : Code} {Q : State → Prop} {D : va_G} {E : Nat → ClassId} {z : Nat} (F : am_F p s m args meth c cX10_ticksLeft 4 RX10 D E z) (a1 : Int32) : ∀ (n : Nat) (a2 : Int32) (a3 : Int32) (M : am_M) (x : Int32) (M1 : am_M), g_X10_ticksLeft_L10 a1 n a2 a3 M = some (x, M1) → (am_W p l e rm_X10_ticksLeft s m args below meth c Q 4 D E z 0 0 M1 38 [(2, .int x)] []) → am_W p l e rm_X10_ticksLeft s m args below meth c Q 4 D E z 0 0 M 10 [(0, .ref (z + 174)), (1, .int a1), (2, .int a2), (3, .int a3)] [] := by
  intro n
  induction n with
  | zero => intro a2 a3 M x M1 h K; cases h
  | succ n ih =>
    intro a2 a3 M x M1 h K
    rw [g_X10_ticksLeft_L10] at h
    refine am_iload_n F 3 dX10_ticksLeft_10 rfl rfl ?_
    refine am_aload_n F 0 dX10_ticksLeft_11 rfl rfl ?_
    refine am_iload_n F 1 dX10_ticksLeft_12 rfl rfl ?_
    refine am_iconst F (v := (2 : Int32)) dX10_ticksLeft_13 (by decide) ?_
    obtain ⟨v6, M5, h4, h⟩ := am_bE h
    refine am_callVi F [.int a1, .int (2 : Int32)] lyk_174 (by decide) rfl cw_X10_58 (c_X10_of l D E z a1 (2 : Int32) M v6 M5 h4) yn_X10_of rfl ⟨Nat.le_of_ble_eq_true rfl, Nat.le_of_ble_eq_true rfl⟩ rfl rfl (Nat.le_of_ble_eq_true rfl) ⟨Nat.zero_le _, Nat.zero_le _⟩ dX10_ticksLeft_14 rfl ?_
    refine am_icmp_ge F (tgt := 38) dX10_ticksLeft_17 (by decide) (fun c13 => ?_) (fun c13 => ?_)
    · have h := (if_pos c13).symm.trans h
      cases h
      exact am_sub (lv' := [(2, .int a2)]) [2] rfl (K)
    · have h := (if_neg c13).symm.trans h
      refine am_iload_n F 2 dX10_ticksLeft_20 rfl rfl ?_
      refine am_aload_n F 0 dX10_ticksLeft_21 rfl rfl ?_
      refine am_iload_n F 1 dX10_ticksLeft_22 rfl rfl ?_
      refine am_iload_n F 3 dX10_ticksLeft_23 rfl rfl ?_
      obtain ⟨v9, M8, h7, h⟩ := am_bE h
      refine am_callVi F [.int a1, .int a3] lyk_174 (by decide) rfl cw_X10_65 (c_X10_act l D E z a1 a3 M5 v9 M8 h7) yn_X10_act rfl ⟨Nat.le_of_ble_eq_true rfl, Nat.le_of_ble_eq_true rfl⟩ rfl rfl (Nat.le_of_ble_eq_true rfl) ⟨Nat.zero_le _, Nat.zero_le _⟩ dX10_ticksLeft_24 rfl ?_
      obtain ⟨v12, M11, h10, h⟩ := am_bE h
      refine am_callSi F [.int v9] cw_X10_68 rfl (c_X10_takes l D E z v9 M8 v12 M11 h10) yn_X10_takes rfl ⟨Nat.le_of_ble_eq_true rfl, Nat.le_of_ble_eq_true rfl⟩ rfl rfl (Nat.le_of_ble_eq_true rfl) ⟨Nat.zero_le _, Nat.zero_le _⟩ dX10_ticksLeft_27 rfl ?_
      refine am_iadd F dX10_ticksLeft_30 ?_
      refine am_istore_n F [(2, .int (a2 + v12)), (0, .ref (z + 174)), (1, .int a1), (3, .int a3)] dX10_ticksLeft_31 rfl (by decide) rfl ?_
      refine am_iinc F [(3, .int (a3 + (1 : Int32))), (2, .int (a2 + v12)), (0, .ref (z + 174)), (1, .int a1)] 3 dX10_ticksLeft_32 (by decide) rfl rfl rfl ?_
      refine am_goto F (tgt := 10) dX10_ticksLeft_35 (by decide) ?_
      exact am_sub (lv' := [(0, .ref (z + 174)), (1, .int a1), (2, .int (a2 + v12)), (3, .int (a3 + (1 : Int32)))]) [2, 3, 1, 0] rfl (ih (a2 + v12) (a3 + (1 : Int32)) M11 _ _ h K)
def g_X10_ticksLeft (a1 : Int32) (M : am_M) : Option (Int32 × am_M) := (am_b (g_X10_of a1 (3 : Int32) M) (fun v3 M2 => (am_b (g_X10_ticksLeft_L10 a1 am_fu (-v3) (0 : Int32) M2) (fun x14 M15 => (some (x14, M15))))))
set_option maxHeartbeats 4000000 in
set_option maxRecDepth 100000 in
theorem c_X10_ticksLeft (l : Launch) (D : va_G) (E : Nat → ClassId) (z : Nat) (a1 : Int32) (M : am_M) (r0 : Int32) (M1 : am_M) (h : g_X10_ticksLeft a1 M = some (r0, M1)) : am_Mi l yX10_ticksLeft cX10_ticksLeft 4 (some .int) rm_X10_ticksLeft D E z [.ref (z + 174), .int a1] M r0 M1 := by
  unfold g_X10_ticksLeft at h
  refine am_of (own := RX10) (by decide +kernel) rfl (by exact Nat.le_of_ble_eq_true rfl) ?_
  intro p e s m args below meth c F hr
  show am_W p l e rm_X10_ticksLeft s m args below meth c _ 4 D E z 0 0 M 0 [(0, .ref (z + 174)), (1, .int a1)] []
  refine am_aload_n F 0 dX10_ticksLeft_0 rfl rfl ?_
  refine am_iload_n F 1 dX10_ticksLeft_1 rfl rfl ?_
  refine am_iconst F (v := (3 : Int32)) dX10_ticksLeft_2 (by decide) ?_
  obtain ⟨v3, M2, h1, h⟩ := am_bE h
  refine am_callVi F [.int a1, .int (3 : Int32)] lyk_174 (by decide) rfl cw_X10_58 (c_X10_of l D E z a1 (3 : Int32) M v3 M2 h1) yn_X10_of rfl ⟨Nat.le_of_ble_eq_true rfl, Nat.le_of_ble_eq_true rfl⟩ rfl rfl (Nat.le_of_ble_eq_true rfl) ⟨Nat.zero_le _, Nat.zero_le _⟩ dX10_ticksLeft_3 rfl ?_
  refine am_ineg F dX10_ticksLeft_6 ?_
  refine am_istore_n F [(2, .int (-v3)), (0, .ref (z + 174)), (1, .int a1)] dX10_ticksLeft_7 rfl (by decide) rfl ?_
  refine am_iconst F (v := (0 : Int32)) dX10_ticksLeft_8 (by decide) ?_
  refine am_istore_n F [(3, .int (0 : Int32)), (2, .int (-v3)), (0, .ref (z + 174)), (1, .int a1)] dX10_ticksLeft_9 rfl (by decide) rfl ?_
  obtain ⟨x14, M15, h16, h⟩ := am_bE h
  refine am_sub (lv' := [(0, .ref (z + 174)), (1, .int a1), (2, .int (-v3)), (3, .int (0 : Int32))]) [2, 3, 1, 0] rfl (cl_X10_ticksLeft_L10 F a1 am_fu (-v3) (0 : Int32) M2 x14 M15 h16 ?_)
  refine am_iload_n F 0 dX10_ticksLeft_38 rfl rfl ?_
  exact am_iret F hr h dX10_ticksLeft_39
/-! AisleSchedulerModel.isFree(III)Z -/
abbrev rm_X10_isFree : Room := { frames := 2, cells := 0, slots := 0, locals := 45 }
theorem yn_X10_isFree : am_yn yX10_isFree 3 := ⟨⟨by decide +kernel, by decide +kernel⟩, by decide +kernel⟩
def g_X10_isFree_L18 (a1 : Int32) (a2 : Int32) (a3 : Int32) : Nat → Int32 → Int32 → am_M → Option ((Int32) × am_M)
  | 0, _, _, _ => none
  | n + 1, a4, a5, M => (am_ci (6 : Int32) 406 (if (am_g M 175 (6 : Int32).toNatClampNeg) ≤ a5 then (some (a4, M)) else (if a4 = (0 : Int32) then (g_X10_isFree_L18 a1 a2 a3 n (0 : Int32) (a5 + (1 : Int32)) M) else (if a5 = a1 then (g_X10_isFree_L18 a1 a2 a3 n (1 : Int32) (a5 + (1 : Int32)) M) else (if a5 = (am_g M 174 11) then (g_X10_isFree_L18 a1 a2 a3 n (1 : Int32) (a5 + (1 : Int32)) M) else (am_ci (((31 : Int32) * a5) + a3) 155 (if (am_g M 180 (((31 : Int32) * a5) + a3).toNatClampNeg) = a2 then (g_X10_isFree_L18 a1 a2 a3 n (0 : Int32) (a5 + (1 : Int32)) M) else (g_X10_isFree_L18 a1 a2 a3 n (1 : Int32) (a5 + (1 : Int32)) M))))))))
set_option maxHeartbeats 4000000 in
set_option maxRecDepth 100000 in
theorem cl_X10_isFree_L18 {l : Launch} {p : Program} {e : Env} {s : State} {m : MethodId} {args : Array Value} {below : List Frame} {meth : Method} {c : Code} {Q : State → Prop} {D : va_G} {E : Nat → ClassId} {z : Nat} (F : am_F p s m args meth c cX10_isFree 6 RX10 D E z) (a1 : Int32) (a2 : Int32) (a3 : Int32) : ∀ (n : Nat) (a4 : Int32) (a5 : Int32) (M : am_M) (x : Int32) (M1 : am_M), g_X10_isFree_L18 a1 a2 a3 n a4 a5 M = some (x, M1) → (am_W p l e rm_X10_isFree s m args below meth c Q 6 D E z 0 0 M1 79 [(4, .int x)] []) → am_W p l e rm_X10_isFree s m args below meth c Q 6 D E z 0 0 M 18 [(0, .ref (z + 174)), (1, .int a1), (2, .int a2), (3, .int a3), (4, .int a4), (5, .int a5)] [] := by
  intro n
  induction n with
  | zero => intro a4 a5 M x M1 h K; cases h
  | succ n ih =>
    intro a4 a5 M x M1 h K
    rw [g_X10_isFree_L18] at h
    refine am_iload F 5 dX10_isFree_18 rfl ?_
    refine am_aload_n F 0 dX10_isFree_20 rfl rfl ?_
    refine gf_X10_7 F lyk_174 dX10_isFree_21 ?_
    refine am_bipush F (v := (6 : Int32)) dX10_isFree_24 (by decide) ?_
    obtain ⟨q4, h⟩ := am_ciE h
    refine am_iald F lyk_175 q4 dX10_isFree_26 ?_
    refine am_icmp_ge F (tgt := 79) dX10_isFree_27 (by decide) (fun c10 => ?_) (fun c10 => ?_)
    · have h := (if_pos c10).symm.trans h
      cases h
      exact am_sub (lv' := [(4, .int a4)]) [4] rfl (K)
    · have h := (if_neg c10).symm.trans h
      refine am_iload F 4 dX10_isFree_30 rfl ?_
      refine am_if_eq F (tgt := 70) dX10_isFree_32 (by decide) (fun c9 => ?_) (fun c9 => ?_)
      · have h := (if_pos c9).symm.trans h
        refine am_iconst F (v := (0 : Int32)) dX10_isFree_70 (by decide) ?_
        refine am_istore F [(4, .int (0 : Int32)), (0, .ref (z + 174)), (1, .int a1), (2, .int a2), (3, .int a3), (5, .int a5)] dX10_isFree_71 (by decide) rfl ?_
        refine am_iinc F [(5, .int (a5 + (1 : Int32))), (4, .int (0 : Int32)), (0, .ref (z + 174)), (1, .int a1), (2, .int a2), (3, .int a3)] 5 dX10_isFree_73 (by decide) rfl rfl rfl ?_
        refine am_goto F (tgt := 18) dX10_isFree_76 (by decide) ?_
        exact am_sub (lv' := [(0, .ref (z + 174)), (1, .int a1), (2, .int a2), (3, .int a3), (4, .int (0 : Int32)), (5, .int (a5 + (1 : Int32)))]) [2, 3, 4, 5, 1, 0] rfl (ih (0 : Int32) (a5 + (1 : Int32)) M _ _ h K)
      · have h := (if_neg c9).symm.trans h
        refine am_iload F 5 dX10_isFree_35 rfl ?_
        refine am_iload_n F 1 dX10_isFree_37 rfl rfl ?_
        refine am_icmp_eq F (tgt := 66) dX10_isFree_38 (by decide) (fun c8 => ?_) (fun c8 => ?_)
        · have h := (if_pos c8).symm.trans h
          refine am_iconst F (v := (1 : Int32)) dX10_isFree_66 (by decide) ?_
          refine am_goto F (tgt := 71) dX10_isFree_67 (by decide) ?_
          refine am_istore F [(4, .int (1 : Int32)), (0, .ref (z + 174)), (1, .int a1), (2, .int a2), (3, .int a3), (5, .int a5)] dX10_isFree_71 (by decide) rfl ?_
          refine am_iinc F [(5, .int (a5 + (1 : Int32))), (4, .int (1 : Int32)), (0, .ref (z + 174)), (1, .int a1), (2, .int a2), (3, .int a3)] 5 dX10_isFree_73 (by decide) rfl rfl rfl ?_
          refine am_goto F (tgt := 18) dX10_isFree_76 (by decide) ?_
          exact am_sub (lv' := [(0, .ref (z + 174)), (1, .int a1), (2, .int a2), (3, .int a3), (4, .int (1 : Int32)), (5, .int (a5 + (1 : Int32)))]) [2, 3, 4, 5, 1, 0] rfl (ih (1 : Int32) (a5 + (1 : Int32)) M _ _ h K)
        · have h := (if_neg c8).symm.trans h
          refine am_iload F 5 dX10_isFree_41 rfl ?_
          refine am_aload_n F 0 dX10_isFree_43 rfl rfl ?_
          refine gf_X10_35 F lyk_174 dX10_isFree_44 ?_
          refine am_icmp_eq F (tgt := 66) dX10_isFree_47 (by decide) (fun c7 => ?_) (fun c7 => ?_)
          · have h := (if_pos c7).symm.trans h
            refine am_iconst F (v := (1 : Int32)) dX10_isFree_66 (by decide) ?_
            refine am_goto F (tgt := 71) dX10_isFree_67 (by decide) ?_
            refine am_istore F [(4, .int (1 : Int32)), (0, .ref (z + 174)), (1, .int a1), (2, .int a2), (3, .int a3), (5, .int a5)] dX10_isFree_71 (by decide) rfl ?_
            refine am_iinc F [(5, .int (a5 + (1 : Int32))), (4, .int (1 : Int32)), (0, .ref (z + 174)), (1, .int a1), (2, .int a2), (3, .int a3)] 5 dX10_isFree_73 (by decide) rfl rfl rfl ?_
            refine am_goto F (tgt := 18) dX10_isFree_76 (by decide) ?_
            exact am_sub (lv' := [(0, .ref (z + 174)), (1, .int a1), (2, .int a2), (3, .int a3), (4, .int (1 : Int32)), (5, .int (a5 + (1 : Int32)))]) [2, 3, 4, 5, 1, 0] rfl (ih (1 : Int32) (a5 + (1 : Int32)) M _ _ h K)
          · have h := (if_neg c7).symm.trans h
            refine am_aload_n F 0 dX10_isFree_50 rfl rfl ?_
            refine gf_X10_29 F lyk_174 dX10_isFree_51 ?_
            refine am_bipush F (v := (31 : Int32)) dX10_isFree_54 (by decide) ?_
            refine am_iload F 5 dX10_isFree_56 rfl ?_
            refine am_imul F dX10_isFree_58 ?_
            refine am_iload_n F 3 dX10_isFree_59 rfl rfl ?_
            refine am_iadd F dX10_isFree_60 ?_
            obtain ⟨q5, h⟩ := am_ciE h
            refine am_iald F lyk_180 q5 dX10_isFree_61 ?_
            refine am_iload_n F 2 dX10_isFree_62 rfl rfl ?_
            refine am_icmp_eq F (tgt := 70) dX10_isFree_63 (by decide) (fun c6 => ?_) (fun c6 => ?_)
            · have h := (if_pos c6).symm.trans h
              refine am_iconst F (v := (0 : Int32)) dX10_isFree_70 (by decide) ?_
              refine am_istore F [(4, .int (0 : Int32)), (0, .ref (z + 174)), (1, .int a1), (2, .int a2), (3, .int a3), (5, .int a5)] dX10_isFree_71 (by decide) rfl ?_
              refine am_iinc F [(5, .int (a5 + (1 : Int32))), (4, .int (0 : Int32)), (0, .ref (z + 174)), (1, .int a1), (2, .int a2), (3, .int a3)] 5 dX10_isFree_73 (by decide) rfl rfl rfl ?_
              refine am_goto F (tgt := 18) dX10_isFree_76 (by decide) ?_
              exact am_sub (lv' := [(0, .ref (z + 174)), (1, .int a1), (2, .int a2), (3, .int a3), (4, .int (0 : Int32)), (5, .int (a5 + (1 : Int32)))]) [2, 3, 4, 5, 1, 0] rfl (ih (0 : Int32) (a5 + (1 : Int32)) M _ _ h K)
            · have h := (if_neg c6).symm.trans h
              refine am_iconst F (v := (1 : Int32)) dX10_isFree_66 (by decide) ?_
              refine am_goto F (tgt := 71) dX10_isFree_67 (by decide) ?_
              refine am_istore F [(4, .int (1 : Int32)), (0, .ref (z + 174)), (1, .int a1), (2, .int a2), (3, .int a3), (5, .int a5)] dX10_isFree_71 (by decide) rfl ?_
              refine am_iinc F [(5, .int (a5 + (1 : Int32))), (4, .int (1 : Int32)), (0, .ref (z + 174)), (1, .int a1), (2, .int a2), (3, .int a3)] 5 dX10_isFree_73 (by decide) rfl rfl rfl ?_
              refine am_goto F (tgt := 18) dX10_isFree_76 (by decide) ?_
              exact am_sub (lv' := [(0, .ref (z + 174)), (1, .int a1), (2, .int a2), (3, .int a3), (4, .int (1 : Int32)), (5, .int (a5 + (1 : Int32)))]) [2, 3, 4, 5, 1, 0] rfl (ih (1 : Int32) (a5 + (1 : Int32)) M _ _ h K)
def g_X10_isFree (a1 : Int32) (a2 : Int32) (a3 : Int32) (M : am_M) : Option (Int32 × am_M) := (am_b (g_X10_isWall a2 M) (fun v3 M2 => (if v3 = (0 : Int32) then (am_b (g_X10_isFree_L18 a1 a2 a3 am_fu (1 : Int32) (0 : Int32) M2) (fun x15 M16 => (am_c (x15 = 0 ∨ x15 = 1) (some (x15, M16))))) else (am_b (g_X10_isFree_L18 a1 a2 a3 am_fu (0 : Int32) (0 : Int32) M2) (fun x11 M12 => (am_c (x11 = 0 ∨ x11 = 1) (some (x11, M12))))))))
set_option maxHeartbeats 4000000 in
set_option maxRecDepth 100000 in
theorem c_X10_isFree (l : Launch) (D : va_G) (E : Nat → ClassId) (z : Nat) (a1 : Int32) (a2 : Int32) (a3 : Int32) (M : am_M) (r0 : Int32) (M1 : am_M) (h : g_X10_isFree a1 a2 a3 M = some (r0, M1)) : am_Mi l yX10_isFree cX10_isFree 6 (some .boolean) rm_X10_isFree D E z [.ref (z + 174), .int a1, .int a2, .int a3] M r0 M1 := by
  unfold g_X10_isFree at h
  refine am_of (own := RX10) (by decide +kernel) rfl (by exact Nat.le_of_ble_eq_true rfl) ?_
  intro p e s m args below meth c F hr
  show am_W p l e rm_X10_isFree s m args below meth c _ 6 D E z 0 0 M 0 [(0, .ref (z + 174)), (1, .int a1), (2, .int a2), (3, .int a3)] []
  refine am_aload_n F 0 dX10_isFree_0 rfl rfl ?_
  refine am_iload_n F 2 dX10_isFree_1 rfl rfl ?_
  obtain ⟨v3, M2, h1, h⟩ := am_bE h
  refine am_callVi F [.int a2] lyk_174 (by decide) rfl cw_X10_79 (c_X10_isWall l D E z a2 M v3 M2 h1) yn_X10_isWall rfl ⟨Nat.le_of_ble_eq_true rfl, Nat.le_of_ble_eq_true rfl⟩ rfl rfl (Nat.le_of_ble_eq_true rfl) ⟨Nat.zero_le _, Nat.zero_le _⟩ dX10_isFree_2 rfl ?_
  refine am_if_ne F (tgt := 12) dX10_isFree_5 (by decide) (fun c19 => ?_) (fun c19 => ?_)
  · have h := (if_neg c19).symm.trans h
    refine am_iconst F (v := (0 : Int32)) dX10_isFree_12 (by decide) ?_
    refine am_istore F [(4, .int (0 : Int32)), (0, .ref (z + 174)), (1, .int a1), (2, .int a2), (3, .int a3)] dX10_isFree_13 (by decide) rfl ?_
    refine am_iconst F (v := (0 : Int32)) dX10_isFree_15 (by decide) ?_
    refine am_istore F [(5, .int (0 : Int32)), (4, .int (0 : Int32)), (0, .ref (z + 174)), (1, .int a1), (2, .int a2), (3, .int a3)] dX10_isFree_16 (by decide) rfl ?_
    obtain ⟨x11, M12, h13, h⟩ := am_bE h
    refine am_sub (lv' := [(0, .ref (z + 174)), (1, .int a1), (2, .int a2), (3, .int a3), (4, .int (0 : Int32)), (5, .int (0 : Int32))]) [2, 3, 4, 5, 1, 0] rfl (cl_X10_isFree_L18 F a1 a2 a3 am_fu (0 : Int32) (0 : Int32) M2 x11 M12 h13 ?_)
    refine am_iload F 0 dX10_isFree_79 rfl ?_
    obtain ⟨q14, h⟩ := am_cE h
    exact am_zret F hr q14 h dX10_isFree_81
  · have h := (if_pos c19).symm.trans h
    refine am_iconst F (v := (1 : Int32)) dX10_isFree_8 (by decide) ?_
    refine am_goto F (tgt := 13) dX10_isFree_9 (by decide) ?_
    refine am_istore F [(4, .int (1 : Int32)), (0, .ref (z + 174)), (1, .int a1), (2, .int a2), (3, .int a3)] dX10_isFree_13 (by decide) rfl ?_
    refine am_iconst F (v := (0 : Int32)) dX10_isFree_15 (by decide) ?_
    refine am_istore F [(5, .int (0 : Int32)), (4, .int (1 : Int32)), (0, .ref (z + 174)), (1, .int a1), (2, .int a2), (3, .int a3)] dX10_isFree_16 (by decide) rfl ?_
    obtain ⟨x15, M16, h17, h⟩ := am_bE h
    refine am_sub (lv' := [(0, .ref (z + 174)), (1, .int a1), (2, .int a2), (3, .int a3), (4, .int (1 : Int32)), (5, .int (0 : Int32))]) [2, 3, 4, 5, 1, 0] rfl (cl_X10_isFree_L18 F a1 a2 a3 am_fu (1 : Int32) (0 : Int32) M2 x15 M16 h17 ?_)
    refine am_iload F 0 dX10_isFree_79 rfl ?_
    obtain ⟨q18, h⟩ := am_cE h
    exact am_zret F hr q18 h dX10_isFree_81
/-! AisleSchedulerModel.isSwap(IIII)Z -/
abbrev rm_X10_isSwap : Room := { frames := 1, cells := 0, slots := 0, locals := 24 }
theorem yn_X10_isSwap : am_yn yX10_isSwap 4 := ⟨⟨by decide +kernel, by decide +kernel⟩, by decide +kernel⟩
def g_X10_isSwap_L6 (a1 : Int32) (a2 : Int32) (a3 : Int32) (a4 : Int32) : Nat → Int32 → Int32 → am_M → Option ((Int32) × am_M)
  | 0, _, _, _ => none
  | n + 1, a5, a6, M => (am_ci (6 : Int32) 406 (if (am_g M 175 (6 : Int32).toNatClampNeg) ≤ a6 then (some (a5, M)) else (if a5 = (0 : Int32) then (if a6 = a1 then (g_X10_isSwap_L6 a1 a2 a3 a4 n (0 : Int32) (a6 + (1 : Int32)) M) else (if a6 = (am_g M 174 11) then (g_X10_isSwap_L6 a1 a2 a3 a4 n (0 : Int32) (a6 + (1 : Int32)) M) else (am_ci (((31 : Int32) * a6) + a4) 155 (if (am_g M 180 (((31 : Int32) * a6) + a4).toNatClampNeg) = a3 then (am_ci ((((31 : Int32) * a6) + a4) + (1 : Int32)) 155 (if (am_g M 180 ((((31 : Int32) * a6) + a4) + (1 : Int32)).toNatClampNeg) = a2 then (g_X10_isSwap_L6 a1 a2 a3 a4 n (1 : Int32) (a6 + (1 : Int32)) M) else (g_X10_isSwap_L6 a1 a2 a3 a4 n (0 : Int32) (a6 + (1 : Int32)) M))) else (g_X10_isSwap_L6 a1 a2 a3 a4 n (0 : Int32) (a6 + (1 : Int32)) M))))) else (g_X10_isSwap_L6 a1 a2 a3 a4 n (1 : Int32) (a6 + (1 : Int32)) M))))
set_option maxHeartbeats 4000000 in
set_option maxRecDepth 100000 in
theorem cl_X10_isSwap_L6 {l : Launch} {p : Program} {e : Env} {s : State} {m : MethodId} {args : Array Value} {below : List Frame} {meth : Method} {c : Code} {Q : State → Prop} {D : va_G} {E : Nat → ClassId} {z : Nat} (F : am_F p s m args meth c cX10_isSwap 7 RX10 D E z) (a1 : Int32) (a2 : Int32) (a3 : Int32) (a4 : Int32) : ∀ (n : Nat) (a5 : Int32) (a6 : Int32) (M : am_M) (x : Int32) (M1 : am_M), g_X10_isSwap_L6 a1 a2 a3 a4 n a5 a6 M = some (x, M1) → (am_W p l e rm_X10_isSwap s m args below meth c Q 7 D E z 0 0 M1 87 [(5, .int x)] []) → am_W p l e rm_X10_isSwap s m args below meth c Q 7 D E z 0 0 M 6 [(0, .ref (z + 174)), (1, .int a1), (2, .int a2), (3, .int a3), (4, .int a4), (5, .int a5), (6, .int a6)] [] := by
  intro n
  induction n with
  | zero => intro a5 a6 M x M1 h K; cases h
  | succ n ih =>
    intro a5 a6 M x M1 h K
    rw [g_X10_isSwap_L6] at h
    refine am_iload F 6 dX10_isSwap_6 rfl ?_
    refine am_aload_n F 0 dX10_isSwap_8 rfl rfl ?_
    refine gf_X10_7 F lyk_174 dX10_isSwap_9 ?_
    refine am_bipush F (v := (6 : Int32)) dX10_isSwap_12 (by decide) ?_
    obtain ⟨q1, h⟩ := am_ciE h
    refine am_iald F lyk_175 q1 dX10_isSwap_14 ?_
    refine am_icmp_ge F (tgt := 87) dX10_isSwap_15 (by decide) (fun c9 => ?_) (fun c9 => ?_)
    · have h := (if_pos c9).symm.trans h
      cases h
      exact am_sub (lv' := [(5, .int a5)]) [5] rfl (K)
    · have h := (if_neg c9).symm.trans h
      refine am_iload F 5 dX10_isSwap_18 rfl ?_
      refine am_if_ne F (tgt := 74) dX10_isSwap_20 (by decide) (fun c8 => ?_) (fun c8 => ?_)
      · have h := (if_neg c8).symm.trans h
        refine am_iconst F (v := (1 : Int32)) dX10_isSwap_74 (by decide) ?_
        refine am_goto F (tgt := 79) dX10_isSwap_75 (by decide) ?_
        refine am_istore F [(5, .int (1 : Int32)), (0, .ref (z + 174)), (1, .int a1), (2, .int a2), (3, .int a3), (4, .int a4), (6, .int a6)] dX10_isSwap_79 (by decide) rfl ?_
        refine am_iinc F [(6, .int (a6 + (1 : Int32))), (5, .int (1 : Int32)), (0, .ref (z + 174)), (1, .int a1), (2, .int a2), (3, .int a3), (4, .int a4)] 6 dX10_isSwap_81 (by decide) rfl rfl rfl ?_
        refine am_goto F (tgt := 6) dX10_isSwap_84 (by decide) ?_
        exact am_sub (lv' := [(0, .ref (z + 174)), (1, .int a1), (2, .int a2), (3, .int a3), (4, .int a4), (5, .int (1 : Int32)), (6, .int (a6 + (1 : Int32)))]) [2, 3, 4, 5, 6, 1, 0] rfl (ih (1 : Int32) (a6 + (1 : Int32)) M _ _ h K)
      · have h := (if_pos c8).symm.trans h
        refine am_iload F 6 dX10_isSwap_23 rfl ?_
        refine am_iload_n F 1 dX10_isSwap_25 rfl rfl ?_
        refine am_icmp_eq F (tgt := 78) dX10_isSwap_26 (by decide) (fun c7 => ?_) (fun c7 => ?_)
        · have h := (if_pos c7).symm.trans h
          refine am_iconst F (v := (0 : Int32)) dX10_isSwap_78 (by decide) ?_
          refine am_istore F [(5, .int (0 : Int32)), (0, .ref (z + 174)), (1, .int a1), (2, .int a2), (3, .int a3), (4, .int a4), (6, .int a6)] dX10_isSwap_79 (by decide) rfl ?_
          refine am_iinc F [(6, .int (a6 + (1 : Int32))), (5, .int (0 : Int32)), (0, .ref (z + 174)), (1, .int a1), (2, .int a2), (3, .int a3), (4, .int a4)] 6 dX10_isSwap_81 (by decide) rfl rfl rfl ?_
          refine am_goto F (tgt := 6) dX10_isSwap_84 (by decide) ?_
          exact am_sub (lv' := [(0, .ref (z + 174)), (1, .int a1), (2, .int a2), (3, .int a3), (4, .int a4), (5, .int (0 : Int32)), (6, .int (a6 + (1 : Int32)))]) [2, 3, 4, 5, 6, 1, 0] rfl (ih (0 : Int32) (a6 + (1 : Int32)) M _ _ h K)
        · have h := (if_neg c7).symm.trans h
          refine am_iload F 6 dX10_isSwap_29 rfl ?_
          refine am_aload_n F 0 dX10_isSwap_31 rfl rfl ?_
          refine gf_X10_35 F lyk_174 dX10_isSwap_32 ?_
          refine am_icmp_eq F (tgt := 78) dX10_isSwap_35 (by decide) (fun c6 => ?_) (fun c6 => ?_)
          · have h := (if_pos c6).symm.trans h
            refine am_iconst F (v := (0 : Int32)) dX10_isSwap_78 (by decide) ?_
            refine am_istore F [(5, .int (0 : Int32)), (0, .ref (z + 174)), (1, .int a1), (2, .int a2), (3, .int a3), (4, .int a4), (6, .int a6)] dX10_isSwap_79 (by decide) rfl ?_
            refine am_iinc F [(6, .int (a6 + (1 : Int32))), (5, .int (0 : Int32)), (0, .ref (z + 174)), (1, .int a1), (2, .int a2), (3, .int a3), (4, .int a4)] 6 dX10_isSwap_81 (by decide) rfl rfl rfl ?_
            refine am_goto F (tgt := 6) dX10_isSwap_84 (by decide) ?_
            exact am_sub (lv' := [(0, .ref (z + 174)), (1, .int a1), (2, .int a2), (3, .int a3), (4, .int a4), (5, .int (0 : Int32)), (6, .int (a6 + (1 : Int32)))]) [2, 3, 4, 5, 6, 1, 0] rfl (ih (0 : Int32) (a6 + (1 : Int32)) M _ _ h K)
          · have h := (if_neg c6).symm.trans h
            refine am_aload_n F 0 dX10_isSwap_38 rfl rfl ?_
            refine gf_X10_29 F lyk_174 dX10_isSwap_39 ?_
            refine am_bipush F (v := (31 : Int32)) dX10_isSwap_42 (by decide) ?_
            refine am_iload F 6 dX10_isSwap_44 rfl ?_
            refine am_imul F dX10_isSwap_46 ?_
            refine am_iload F 4 dX10_isSwap_47 rfl ?_
            refine am_iadd F dX10_isSwap_49 ?_
            obtain ⟨q2, h⟩ := am_ciE h
            refine am_iald F lyk_180 q2 dX10_isSwap_50 ?_
            refine am_iload_n F 3 dX10_isSwap_51 rfl rfl ?_
            refine am_icmp_ne F (tgt := 78) dX10_isSwap_52 (by decide) (fun c5 => ?_) (fun c5 => ?_)
            · have h := (if_neg c5).symm.trans h
              refine am_iconst F (v := (0 : Int32)) dX10_isSwap_78 (by decide) ?_
              refine am_istore F [(5, .int (0 : Int32)), (0, .ref (z + 174)), (1, .int a1), (2, .int a2), (3, .int a3), (4, .int a4), (6, .int a6)] dX10_isSwap_79 (by decide) rfl ?_
              refine am_iinc F [(6, .int (a6 + (1 : Int32))), (5, .int (0 : Int32)), (0, .ref (z + 174)), (1, .int a1), (2, .int a2), (3, .int a3), (4, .int a4)] 6 dX10_isSwap_81 (by decide) rfl rfl rfl ?_
              refine am_goto F (tgt := 6) dX10_isSwap_84 (by decide) ?_
              exact am_sub (lv' := [(0, .ref (z + 174)), (1, .int a1), (2, .int a2), (3, .int a3), (4, .int a4), (5, .int (0 : Int32)), (6, .int (a6 + (1 : Int32)))]) [2, 3, 4, 5, 6, 1, 0] rfl (ih (0 : Int32) (a6 + (1 : Int32)) M _ _ h K)
            · have h := (if_pos c5).symm.trans h
              refine am_aload_n F 0 dX10_isSwap_55 rfl rfl ?_
              refine gf_X10_29 F lyk_174 dX10_isSwap_56 ?_
              refine am_bipush F (v := (31 : Int32)) dX10_isSwap_59 (by decide) ?_
              refine am_iload F 6 dX10_isSwap_61 rfl ?_
              refine am_imul F dX10_isSwap_63 ?_
              refine am_iload F 4 dX10_isSwap_64 rfl ?_
              refine am_iadd F dX10_isSwap_66 ?_
              refine am_iconst F (v := (1 : Int32)) dX10_isSwap_67 (by decide) ?_
              refine am_iadd F dX10_isSwap_68 ?_
              obtain ⟨q3, h⟩ := am_ciE h
              refine am_iald F lyk_180 q3 dX10_isSwap_69 ?_
              refine am_iload_n F 2 dX10_isSwap_70 rfl rfl ?_
              refine am_icmp_ne F (tgt := 78) dX10_isSwap_71 (by decide) (fun c4 => ?_) (fun c4 => ?_)
              · have h := (if_neg c4).symm.trans h
                refine am_iconst F (v := (0 : Int32)) dX10_isSwap_78 (by decide) ?_
                refine am_istore F [(5, .int (0 : Int32)), (0, .ref (z + 174)), (1, .int a1), (2, .int a2), (3, .int a3), (4, .int a4), (6, .int a6)] dX10_isSwap_79 (by decide) rfl ?_
                refine am_iinc F [(6, .int (a6 + (1 : Int32))), (5, .int (0 : Int32)), (0, .ref (z + 174)), (1, .int a1), (2, .int a2), (3, .int a3), (4, .int a4)] 6 dX10_isSwap_81 (by decide) rfl rfl rfl ?_
                refine am_goto F (tgt := 6) dX10_isSwap_84 (by decide) ?_
                exact am_sub (lv' := [(0, .ref (z + 174)), (1, .int a1), (2, .int a2), (3, .int a3), (4, .int a4), (5, .int (0 : Int32)), (6, .int (a6 + (1 : Int32)))]) [2, 3, 4, 5, 6, 1, 0] rfl (ih (0 : Int32) (a6 + (1 : Int32)) M _ _ h K)
              · have h := (if_pos c4).symm.trans h
                refine am_iconst F (v := (1 : Int32)) dX10_isSwap_74 (by decide) ?_
                refine am_goto F (tgt := 79) dX10_isSwap_75 (by decide) ?_
                refine am_istore F [(5, .int (1 : Int32)), (0, .ref (z + 174)), (1, .int a1), (2, .int a2), (3, .int a3), (4, .int a4), (6, .int a6)] dX10_isSwap_79 (by decide) rfl ?_
                refine am_iinc F [(6, .int (a6 + (1 : Int32))), (5, .int (1 : Int32)), (0, .ref (z + 174)), (1, .int a1), (2, .int a2), (3, .int a3), (4, .int a4)] 6 dX10_isSwap_81 (by decide) rfl rfl rfl ?_
                refine am_goto F (tgt := 6) dX10_isSwap_84 (by decide) ?_
                exact am_sub (lv' := [(0, .ref (z + 174)), (1, .int a1), (2, .int a2), (3, .int a3), (4, .int a4), (5, .int (1 : Int32)), (6, .int (a6 + (1 : Int32)))]) [2, 3, 4, 5, 6, 1, 0] rfl (ih (1 : Int32) (a6 + (1 : Int32)) M _ _ h K)
def g_X10_isSwap (a1 : Int32) (a2 : Int32) (a3 : Int32) (a4 : Int32) (M : am_M) : Option (Int32 × am_M) := (am_b (g_X10_isSwap_L6 a1 a2 a3 a4 am_fu (0 : Int32) (0 : Int32) M) (fun x10 M11 => (am_c (x10 = 0 ∨ x10 = 1) (some (x10, M11)))))
set_option maxHeartbeats 4000000 in
set_option maxRecDepth 100000 in
theorem c_X10_isSwap (l : Launch) (D : va_G) (E : Nat → ClassId) (z : Nat) (a1 : Int32) (a2 : Int32) (a3 : Int32) (a4 : Int32) (M : am_M) (r0 : Int32) (M1 : am_M) (h : g_X10_isSwap a1 a2 a3 a4 M = some (r0, M1)) : am_Mi l yX10_isSwap cX10_isSwap 7 (some .boolean) rm_X10_isSwap D E z [.ref (z + 174), .int a1, .int a2, .int a3, .int a4] M r0 M1 := by
  unfold g_X10_isSwap at h
  refine am_of (own := RX10) (by decide +kernel) rfl (by exact Nat.le_of_ble_eq_true rfl) ?_
  intro p e s m args below meth c F hr
  show am_W p l e rm_X10_isSwap s m args below meth c _ 7 D E z 0 0 M 0 [(0, .ref (z + 174)), (1, .int a1), (2, .int a2), (3, .int a3), (4, .int a4)] []
  refine am_iconst F (v := (0 : Int32)) dX10_isSwap_0 (by decide) ?_
  refine am_istore F [(5, .int (0 : Int32)), (0, .ref (z + 174)), (1, .int a1), (2, .int a2), (3, .int a3), (4, .int a4)] dX10_isSwap_1 (by decide) rfl ?_
  refine am_iconst F (v := (0 : Int32)) dX10_isSwap_3 (by decide) ?_
  refine am_istore F [(6, .int (0 : Int32)), (5, .int (0 : Int32)), (0, .ref (z + 174)), (1, .int a1), (2, .int a2), (3, .int a3), (4, .int a4)] dX10_isSwap_4 (by decide) rfl ?_
  obtain ⟨x10, M11, h12, h⟩ := am_bE h
  refine am_sub (lv' := [(0, .ref (z + 174)), (1, .int a1), (2, .int a2), (3, .int a3), (4, .int a4), (5, .int (0 : Int32)), (6, .int (0 : Int32))]) [2, 3, 4, 5, 6, 1, 0] rfl (cl_X10_isSwap_L6 F a1 a2 a3 a4 am_fu (0 : Int32) (0 : Int32) M x10 M11 h12 ?_)
  refine am_iload F 0 dX10_isSwap_87 rfl ?_
  obtain ⟨q13, h⟩ := am_cE h
  exact am_zret F hr q13 h dX10_isSwap_89
/-! AisleSchedulerModel.isLiftFree(III)Z -/
abbrev rm_X10_isLiftFree : Room := { frames := 1, cells := 0, slots := 0, locals := 24 }
theorem yn_X10_isLiftFree : am_yn yX10_isLiftFree 3 := ⟨⟨by decide +kernel, by decide +kernel⟩, by decide +kernel⟩
def g_X10_isLiftFree_L21 (a1 : Int32) (a2 : Int32) (a3 : Int32) (a5 : Int32) : Nat → Int32 → Int32 → am_M → Option ((Int32) × am_M)
  | 0, _, _, _ => none
  | n + 1, a4, a6, M => (if (a3 + (3 : Int32)) ≤ a6 then (some (a4, M)) else (if a4 = (0 : Int32) then (g_X10_isLiftFree_L21 a1 a2 a3 a5 n (0 : Int32) (a6 + (1 : Int32)) M) else (if a5 = a1 then (g_X10_isLiftFree_L21 a1 a2 a3 a5 n (1 : Int32) (a6 + (1 : Int32)) M) else (if a5 = (am_g M 174 11) then (g_X10_isLiftFree_L21 a1 a2 a3 a5 n (1 : Int32) (a6 + (1 : Int32)) M) else (am_ci (((31 : Int32) * a5) + a6) 155 (if (am_g M 181 (((31 : Int32) * a5) + a6).toNatClampNeg) = a2 then (g_X10_isLiftFree_L21 a1 a2 a3 a5 n (0 : Int32) (a6 + (1 : Int32)) M) else (g_X10_isLiftFree_L21 a1 a2 a3 a5 n (1 : Int32) (a6 + (1 : Int32)) M)))))))
set_option maxHeartbeats 4000000 in
set_option maxRecDepth 100000 in
theorem cl_X10_isLiftFree_L21 {l : Launch} {p : Program} {e : Env} {s : State} {m : MethodId} {args : Array Value} {below : List Frame} {meth : Method} {c : Code} {Q : State → Prop} {D : va_G} {E : Nat → ClassId} {z : Nat} (F : am_F p s m args meth c cX10_isLiftFree 7 RX10 D E z) (a1 : Int32) (a2 : Int32) (a3 : Int32) (a5 : Int32) : ∀ (n : Nat) (a4 : Int32) (a6 : Int32) (M : am_M) (x : Int32) (M1 : am_M), g_X10_isLiftFree_L21 a1 a2 a3 a5 n a4 a6 M = some (x, M1) → (am_W p l e rm_X10_isLiftFree s m args below meth c Q 7 D E z 0 0 M1 79 [(0, .ref (z + 174)), (1, .int a1), (2, .int a2), (3, .int a3), (4, .int x), (5, .int a5)] []) → am_W p l e rm_X10_isLiftFree s m args below meth c Q 7 D E z 0 0 M 21 [(0, .ref (z + 174)), (1, .int a1), (2, .int a2), (3, .int a3), (4, .int a4), (5, .int a5), (6, .int a6)] [] := by
  intro n
  induction n with
  | zero => intro a4 a6 M x M1 h K; cases h
  | succ n ih =>
    intro a4 a6 M x M1 h K
    rw [g_X10_isLiftFree_L21] at h
    refine am_iload F 6 dX10_isLiftFree_21 rfl ?_
    refine am_iload_n F 3 dX10_isLiftFree_23 rfl rfl ?_
    refine am_iconst F (v := (3 : Int32)) dX10_isLiftFree_24 (by decide) ?_
    refine am_iadd F dX10_isLiftFree_25 ?_
    refine am_icmp_ge F (tgt := 79) dX10_isLiftFree_26 (by decide) (fun c7 => ?_) (fun c7 => ?_)
    · have h := (if_pos c7).symm.trans h
      cases h
      exact am_sub (lv' := [(0, .ref (z + 174)), (1, .int a1), (2, .int a2), (3, .int a3), (4, .int a4), (5, .int a5)]) [0, 1, 2, 3, 4, 5] rfl (K)
    · have h := (if_neg c7).symm.trans h
      refine am_iload F 4 dX10_isLiftFree_29 rfl ?_
      refine am_if_eq F (tgt := 70) dX10_isLiftFree_31 (by decide) (fun c6 => ?_) (fun c6 => ?_)
      · have h := (if_pos c6).symm.trans h
        refine am_iconst F (v := (0 : Int32)) dX10_isLiftFree_70 (by decide) ?_
        refine am_istore F [(4, .int (0 : Int32)), (0, .ref (z + 174)), (1, .int a1), (2, .int a2), (3, .int a3), (5, .int a5), (6, .int a6)] dX10_isLiftFree_71 (by decide) rfl ?_
        refine am_iinc F [(6, .int (a6 + (1 : Int32))), (4, .int (0 : Int32)), (0, .ref (z + 174)), (1, .int a1), (2, .int a2), (3, .int a3), (5, .int a5)] 6 dX10_isLiftFree_73 (by decide) rfl rfl rfl ?_
        refine am_goto F (tgt := 21) dX10_isLiftFree_76 (by decide) ?_
        exact am_sub (lv' := [(0, .ref (z + 174)), (1, .int a1), (2, .int a2), (3, .int a3), (4, .int (0 : Int32)), (5, .int a5), (6, .int (a6 + (1 : Int32)))]) [2, 3, 4, 5, 1, 6, 0] rfl (ih (0 : Int32) (a6 + (1 : Int32)) M _ _ h K)
      · have h := (if_neg c6).symm.trans h
        refine am_iload F 5 dX10_isLiftFree_34 rfl ?_
        refine am_iload_n F 1 dX10_isLiftFree_36 rfl rfl ?_
        refine am_icmp_eq F (tgt := 66) dX10_isLiftFree_37 (by decide) (fun c5 => ?_) (fun c5 => ?_)
        · have h := (if_pos c5).symm.trans h
          refine am_iconst F (v := (1 : Int32)) dX10_isLiftFree_66 (by decide) ?_
          refine am_goto F (tgt := 71) dX10_isLiftFree_67 (by decide) ?_
          refine am_istore F [(4, .int (1 : Int32)), (0, .ref (z + 174)), (1, .int a1), (2, .int a2), (3, .int a3), (5, .int a5), (6, .int a6)] dX10_isLiftFree_71 (by decide) rfl ?_
          refine am_iinc F [(6, .int (a6 + (1 : Int32))), (4, .int (1 : Int32)), (0, .ref (z + 174)), (1, .int a1), (2, .int a2), (3, .int a3), (5, .int a5)] 6 dX10_isLiftFree_73 (by decide) rfl rfl rfl ?_
          refine am_goto F (tgt := 21) dX10_isLiftFree_76 (by decide) ?_
          exact am_sub (lv' := [(0, .ref (z + 174)), (1, .int a1), (2, .int a2), (3, .int a3), (4, .int (1 : Int32)), (5, .int a5), (6, .int (a6 + (1 : Int32)))]) [2, 3, 4, 5, 1, 6, 0] rfl (ih (1 : Int32) (a6 + (1 : Int32)) M _ _ h K)
        · have h := (if_neg c5).symm.trans h
          refine am_iload F 5 dX10_isLiftFree_40 rfl ?_
          refine am_aload_n F 0 dX10_isLiftFree_42 rfl rfl ?_
          refine gf_X10_35 F lyk_174 dX10_isLiftFree_43 ?_
          refine am_icmp_eq F (tgt := 66) dX10_isLiftFree_46 (by decide) (fun c4 => ?_) (fun c4 => ?_)
          · have h := (if_pos c4).symm.trans h
            refine am_iconst F (v := (1 : Int32)) dX10_isLiftFree_66 (by decide) ?_
            refine am_goto F (tgt := 71) dX10_isLiftFree_67 (by decide) ?_
            refine am_istore F [(4, .int (1 : Int32)), (0, .ref (z + 174)), (1, .int a1), (2, .int a2), (3, .int a3), (5, .int a5), (6, .int a6)] dX10_isLiftFree_71 (by decide) rfl ?_
            refine am_iinc F [(6, .int (a6 + (1 : Int32))), (4, .int (1 : Int32)), (0, .ref (z + 174)), (1, .int a1), (2, .int a2), (3, .int a3), (5, .int a5)] 6 dX10_isLiftFree_73 (by decide) rfl rfl rfl ?_
            refine am_goto F (tgt := 21) dX10_isLiftFree_76 (by decide) ?_
            exact am_sub (lv' := [(0, .ref (z + 174)), (1, .int a1), (2, .int a2), (3, .int a3), (4, .int (1 : Int32)), (5, .int a5), (6, .int (a6 + (1 : Int32)))]) [2, 3, 4, 5, 1, 6, 0] rfl (ih (1 : Int32) (a6 + (1 : Int32)) M _ _ h K)
          · have h := (if_neg c4).symm.trans h
            refine am_aload_n F 0 dX10_isLiftFree_49 rfl rfl ?_
            refine gf_X10_32 F lyk_174 dX10_isLiftFree_50 ?_
            refine am_bipush F (v := (31 : Int32)) dX10_isLiftFree_53 (by decide) ?_
            refine am_iload F 5 dX10_isLiftFree_55 rfl ?_
            refine am_imul F dX10_isLiftFree_57 ?_
            refine am_iload F 6 dX10_isLiftFree_58 rfl ?_
            refine am_iadd F dX10_isLiftFree_60 ?_
            obtain ⟨q2, h⟩ := am_ciE h
            refine am_iald F lyk_181 q2 dX10_isLiftFree_61 ?_
            refine am_iload_n F 2 dX10_isLiftFree_62 rfl rfl ?_
            refine am_icmp_eq F (tgt := 70) dX10_isLiftFree_63 (by decide) (fun c3 => ?_) (fun c3 => ?_)
            · have h := (if_pos c3).symm.trans h
              refine am_iconst F (v := (0 : Int32)) dX10_isLiftFree_70 (by decide) ?_
              refine am_istore F [(4, .int (0 : Int32)), (0, .ref (z + 174)), (1, .int a1), (2, .int a2), (3, .int a3), (5, .int a5), (6, .int a6)] dX10_isLiftFree_71 (by decide) rfl ?_
              refine am_iinc F [(6, .int (a6 + (1 : Int32))), (4, .int (0 : Int32)), (0, .ref (z + 174)), (1, .int a1), (2, .int a2), (3, .int a3), (5, .int a5)] 6 dX10_isLiftFree_73 (by decide) rfl rfl rfl ?_
              refine am_goto F (tgt := 21) dX10_isLiftFree_76 (by decide) ?_
              exact am_sub (lv' := [(0, .ref (z + 174)), (1, .int a1), (2, .int a2), (3, .int a3), (4, .int (0 : Int32)), (5, .int a5), (6, .int (a6 + (1 : Int32)))]) [2, 3, 4, 5, 1, 6, 0] rfl (ih (0 : Int32) (a6 + (1 : Int32)) M _ _ h K)
            · have h := (if_neg c3).symm.trans h
              refine am_iconst F (v := (1 : Int32)) dX10_isLiftFree_66 (by decide) ?_
              refine am_goto F (tgt := 71) dX10_isLiftFree_67 (by decide) ?_
              refine am_istore F [(4, .int (1 : Int32)), (0, .ref (z + 174)), (1, .int a1), (2, .int a2), (3, .int a3), (5, .int a5), (6, .int a6)] dX10_isLiftFree_71 (by decide) rfl ?_
              refine am_iinc F [(6, .int (a6 + (1 : Int32))), (4, .int (1 : Int32)), (0, .ref (z + 174)), (1, .int a1), (2, .int a2), (3, .int a3), (5, .int a5)] 6 dX10_isLiftFree_73 (by decide) rfl rfl rfl ?_
              refine am_goto F (tgt := 21) dX10_isLiftFree_76 (by decide) ?_
              exact am_sub (lv' := [(0, .ref (z + 174)), (1, .int a1), (2, .int a2), (3, .int a3), (4, .int (1 : Int32)), (5, .int a5), (6, .int (a6 + (1 : Int32)))]) [2, 3, 4, 5, 1, 6, 0] rfl (ih (1 : Int32) (a6 + (1 : Int32)) M _ _ h K)
def g_X10_isLiftFree_L6 (a1 : Int32) (a2 : Int32) (a3 : Int32) : Nat → Int32 → Int32 → am_M → Option ((Int32) × am_M)
  | 0, _, _, _ => none
  | n + 1, a4, a5, M => (am_ci (6 : Int32) 406 (if (am_g M 175 (6 : Int32).toNatClampNeg) ≤ a5 then (some (a4, M)) else (am_b (g_X10_isLiftFree_L21 a1 a2 a3 a5 am_fu a4 a3 M) (fun x8 M9 => (g_X10_isLiftFree_L6 a1 a2 a3 n x8 (a5 + (1 : Int32)) M9)))))
set_option maxHeartbeats 4000000 in
set_option maxRecDepth 100000 in
theorem cl_X10_isLiftFree_L6 {l : Launch} {p : Program} {e : Env} {s : State} {m : MethodId} {args : Array Value} {below : List Frame} {meth : Method} {c : Code} {Q : State → Prop} {D : va_G} {E : Nat → ClassId} {z : Nat} (F : am_F p s m args meth c cX10_isLiftFree 7 RX10 D E z) (a1 : Int32) (a2 : Int32) (a3 : Int32) : ∀ (n : Nat) (a4 : Int32) (a5 : Int32) (M : am_M) (x : Int32) (M1 : am_M), g_X10_isLiftFree_L6 a1 a2 a3 n a4 a5 M = some (x, M1) → (am_W p l e rm_X10_isLiftFree s m args below meth c Q 7 D E z 0 0 M1 85 [(4, .int x)] []) → am_W p l e rm_X10_isLiftFree s m args below meth c Q 7 D E z 0 0 M 6 [(0, .ref (z + 174)), (1, .int a1), (2, .int a2), (3, .int a3), (4, .int a4), (5, .int a5)] [] := by
  intro n
  induction n with
  | zero => intro a4 a5 M x M1 h K; cases h
  | succ n ih =>
    intro a4 a5 M x M1 h K
    rw [g_X10_isLiftFree_L6] at h
    refine am_iload F 5 dX10_isLiftFree_6 rfl ?_
    refine am_aload_n F 0 dX10_isLiftFree_8 rfl rfl ?_
    refine gf_X10_7 F lyk_174 dX10_isLiftFree_9 ?_
    refine am_bipush F (v := (6 : Int32)) dX10_isLiftFree_12 (by decide) ?_
    obtain ⟨q1, h⟩ := am_ciE h
    refine am_iald F lyk_175 q1 dX10_isLiftFree_14 ?_
    refine am_icmp_ge F (tgt := 85) dX10_isLiftFree_15 (by decide) (fun c11 => ?_) (fun c11 => ?_)
    · have h := (if_pos c11).symm.trans h
      cases h
      exact am_sub (lv' := [(4, .int a4)]) [4] rfl (K)
    · have h := (if_neg c11).symm.trans h
      refine am_iload_n F 3 dX10_isLiftFree_18 rfl rfl ?_
      refine am_istore F [(6, .int a3), (0, .ref (z + 174)), (1, .int a1), (2, .int a2), (3, .int a3), (4, .int a4), (5, .int a5)] dX10_isLiftFree_19 (by decide) rfl ?_
      obtain ⟨x8, M9, h10, h⟩ := am_bE h
      refine am_sub (lv' := [(0, .ref (z + 174)), (1, .int a1), (2, .int a2), (3, .int a3), (4, .int a4), (5, .int a5), (6, .int a3)]) [1, 2, 3, 4, 5, 6, 0] rfl (cl_X10_isLiftFree_L21 F a1 a2 a3 a5 am_fu a4 a3 M x8 M9 h10 ?_)
      refine am_iinc F [(5, .int (a5 + (1 : Int32))), (0, .ref (z + 174)), (1, .int a1), (2, .int a2), (3, .int a3), (4, .int x8)] 5 dX10_isLiftFree_79 (by decide) rfl rfl rfl ?_
      refine am_goto F (tgt := 6) dX10_isLiftFree_82 (by decide) ?_
      exact am_sub (lv' := [(0, .ref (z + 174)), (1, .int a1), (2, .int a2), (3, .int a3), (4, .int x8), (5, .int (a5 + (1 : Int32)))]) [1, 2, 3, 4, 5, 0] rfl (ih x8 (a5 + (1 : Int32)) M9 _ _ h K)
def g_X10_isLiftFree (a1 : Int32) (a2 : Int32) (a3 : Int32) (M : am_M) : Option (Int32 × am_M) := (am_b (g_X10_isLiftFree_L6 a1 a2 a3 am_fu (1 : Int32) (0 : Int32) M) (fun x12 M13 => (am_c (x12 = 0 ∨ x12 = 1) (some (x12, M13)))))
set_option maxHeartbeats 4000000 in
set_option maxRecDepth 100000 in
theorem c_X10_isLiftFree (l : Launch) (D : va_G) (E : Nat → ClassId) (z : Nat) (a1 : Int32) (a2 : Int32) (a3 : Int32) (M : am_M) (r0 : Int32) (M1 : am_M) (h : g_X10_isLiftFree a1 a2 a3 M = some (r0, M1)) : am_Mi l yX10_isLiftFree cX10_isLiftFree 7 (some .boolean) rm_X10_isLiftFree D E z [.ref (z + 174), .int a1, .int a2, .int a3] M r0 M1 := by
  unfold g_X10_isLiftFree at h
  refine am_of (own := RX10) (by decide +kernel) rfl (by exact Nat.le_of_ble_eq_true rfl) ?_
  intro p e s m args below meth c F hr
  show am_W p l e rm_X10_isLiftFree s m args below meth c _ 7 D E z 0 0 M 0 [(0, .ref (z + 174)), (1, .int a1), (2, .int a2), (3, .int a3)] []
  refine am_iconst F (v := (1 : Int32)) dX10_isLiftFree_0 (by decide) ?_
  refine am_istore F [(4, .int (1 : Int32)), (0, .ref (z + 174)), (1, .int a1), (2, .int a2), (3, .int a3)] dX10_isLiftFree_1 (by decide) rfl ?_
  refine am_iconst F (v := (0 : Int32)) dX10_isLiftFree_3 (by decide) ?_
  refine am_istore F [(5, .int (0 : Int32)), (4, .int (1 : Int32)), (0, .ref (z + 174)), (1, .int a1), (2, .int a2), (3, .int a3)] dX10_isLiftFree_4 (by decide) rfl ?_
  obtain ⟨x12, M13, h14, h⟩ := am_bE h
  refine am_sub (lv' := [(0, .ref (z + 174)), (1, .int a1), (2, .int a2), (3, .int a3), (4, .int (1 : Int32)), (5, .int (0 : Int32))]) [2, 3, 4, 5, 1, 0] rfl (cl_X10_isLiftFree_L6 F a1 a2 a3 am_fu (1 : Int32) (0 : Int32) M x12 M13 h14 ?_)
  refine am_iload F 0 dX10_isLiftFree_85 rfl ?_
  obtain ⟨q15, h⟩ := am_cE h
  exact am_zret F hr q15 h dX10_isLiftFree_87
/-! AisleSchedulerModel.isLegal(IIII)Z -/
abbrev rm_X10_isLegal : Room := { frames := 3, cells := 0, slots := 0, locals := 70 }
theorem yn_X10_isLegal : am_yn yX10_isLegal 4 := ⟨⟨by decide +kernel, by decide +kernel⟩, by decide +kernel⟩
def g_X10_isLegal (a1 : Int32) (a2 : Int32) (a3 : Int32) (a4 : Int32) (M : am_M) : Option (Int32 × am_M) := (am_b (g_X10_moved a2 a3 M) (fun v3 M2 => (if v3 = (-1 : Int32) then (some ((0 : Int32), M2)) else (am_b (g_X10_takes a3 M2) (fun v6 M5 => (if (30 : Int32) < (a4 + v6) then (some ((0 : Int32), M5)) else (am_b (g_X10_takes a3 M5) (fun v9 M8 => (am_b (g_X10_isFree a1 v3 (a4 + v9) M8) (fun v12 M11 => (if v12 = (0 : Int32) then (some ((0 : Int32), M11)) else (if a3 < (5 : Int32) then (if a3 = (0 : Int32) then (some ((1 : Int32), M11)) else (am_b (g_X10_isSwap a1 a2 v3 a4 M11) (fun v15 M14 => (if v15 = (0 : Int32) then (some ((1 : Int32), M14)) else (some ((0 : Int32), M14)))))) else (am_b (g_X10_isLiftFree a1 (a3 - (5 : Int32)) a4 M11) (fun v20 M19 => (am_c (v20 = 0 ∨ v20 = 1) (some (v20, M19)))))))))))))))))
set_option maxHeartbeats 4000000 in
set_option maxRecDepth 100000 in
theorem c_X10_isLegal (l : Launch) (D : va_G) (E : Nat → ClassId) (z : Nat) (a1 : Int32) (a2 : Int32) (a3 : Int32) (a4 : Int32) (M : am_M) (r0 : Int32) (M1 : am_M) (h : g_X10_isLegal a1 a2 a3 a4 M = some (r0, M1)) : am_Mi l yX10_isLegal cX10_isLegal 6 (some .boolean) rm_X10_isLegal D E z [.ref (z + 174), .int a1, .int a2, .int a3, .int a4] M r0 M1 := by
  unfold g_X10_isLegal at h
  refine am_of (own := RX10) (by decide +kernel) rfl (by exact Nat.le_of_ble_eq_true rfl) ?_
  intro p e s m args below meth c F hr
  show am_W p l e rm_X10_isLegal s m args below meth c _ 6 D E z 0 0 M 0 [(0, .ref (z + 174)), (1, .int a1), (2, .int a2), (3, .int a3), (4, .int a4)] []
  refine am_aload_n F 0 dX10_isLegal_0 rfl rfl ?_
  refine am_iload_n F 2 dX10_isLegal_1 rfl rfl ?_
  refine am_iload_n F 3 dX10_isLegal_2 rfl rfl ?_
  obtain ⟨v3, M2, h1, h⟩ := am_bE h
  refine am_callVi F [.int a2, .int a3] lyk_174 (by decide) rfl cw_X10_72 (c_X10_moved l D E z a2 a3 M v3 M2 h1) yn_X10_moved rfl ⟨Nat.le_of_ble_eq_true rfl, Nat.le_of_ble_eq_true rfl⟩ rfl rfl (Nat.le_of_ble_eq_true rfl) ⟨Nat.zero_le _, Nat.zero_le _⟩ dX10_isLegal_3 rfl ?_
  refine am_istore F [(5, .int v3), (0, .ref (z + 174)), (1, .int a1), (2, .int a2), (3, .int a3), (4, .int a4)] dX10_isLegal_6 (by decide) rfl ?_
  refine am_iload F 0 dX10_isLegal_8 rfl ?_
  refine am_iconst F (v := (-1 : Int32)) dX10_isLegal_10 (by decide) ?_
  refine am_icmp_eq F (tgt := 43) dX10_isLegal_11 (by decide) (fun c25 => ?_) (fun c25 => ?_)
  · have h := (if_pos c25).symm.trans h
    refine am_iconst F (v := (0 : Int32)) dX10_isLegal_43 (by decide) ?_
    exact am_zret F hr (by decide) h dX10_isLegal_44
  · have h := (if_neg c25).symm.trans h
    refine am_iload F 5 dX10_isLegal_14 rfl ?_
    refine am_iload_n F 4 dX10_isLegal_16 rfl rfl ?_
    obtain ⟨v6, M5, h4, h⟩ := am_bE h
    refine am_callSi F [.int a3] cw_X10_68 rfl (c_X10_takes l D E z a3 M2 v6 M5 h4) yn_X10_takes rfl ⟨Nat.le_of_ble_eq_true rfl, Nat.le_of_ble_eq_true rfl⟩ rfl rfl (Nat.le_of_ble_eq_true rfl) ⟨Nat.zero_le _, Nat.zero_le _⟩ dX10_isLegal_17 rfl ?_
    refine am_iadd F dX10_isLegal_20 ?_
    refine am_bipush F (v := (30 : Int32)) dX10_isLegal_21 (by decide) ?_
    refine am_icmp_gt F (tgt := 43) dX10_isLegal_23 (by decide) (fun c24 => ?_) (fun c24 => ?_)
    · have h := (if_pos c24).symm.trans h
      refine am_iconst F (v := (0 : Int32)) dX10_isLegal_43 (by decide) ?_
      exact am_zret F hr (by decide) h dX10_isLegal_44
    · have h := (if_neg c24).symm.trans h
      refine am_aload_n F 1 dX10_isLegal_26 rfl rfl ?_
      refine am_iload_n F 2 dX10_isLegal_27 rfl rfl ?_
      refine am_iload F 0 dX10_isLegal_28 rfl ?_
      refine am_iload F 5 dX10_isLegal_30 rfl ?_
      refine am_iload_n F 4 dX10_isLegal_32 rfl rfl ?_
      obtain ⟨v9, M8, h7, h⟩ := am_bE h
      refine am_callSi F [.int a3] cw_X10_68 rfl (c_X10_takes l D E z a3 M5 v9 M8 h7) yn_X10_takes rfl ⟨Nat.le_of_ble_eq_true rfl, Nat.le_of_ble_eq_true rfl⟩ rfl rfl (Nat.le_of_ble_eq_true rfl) ⟨Nat.zero_le _, Nat.zero_le _⟩ dX10_isLegal_33 rfl ?_
      refine am_iadd F dX10_isLegal_36 ?_
      obtain ⟨v12, M11, h10, h⟩ := am_bE h
      refine am_callVi F [.int a1, .int v3, .int (a4 + v9)] lyk_174 (by decide) rfl cw_X10_83 (c_X10_isFree l D E z a1 v3 (a4 + v9) M8 v12 M11 h10) yn_X10_isFree rfl ⟨Nat.le_of_ble_eq_true rfl, Nat.le_of_ble_eq_true rfl⟩ rfl rfl (Nat.le_of_ble_eq_true rfl) ⟨Nat.zero_le _, Nat.zero_le _⟩ dX10_isLegal_37 rfl ?_
      refine am_if_ne F (tgt := 45) dX10_isLegal_40 (by decide) (fun c23 => ?_) (fun c23 => ?_)
      · have h := (if_neg c23).symm.trans h
        refine am_iload_n F 4 dX10_isLegal_45 rfl rfl ?_
        refine am_iconst F (v := (5 : Int32)) dX10_isLegal_46 (by decide) ?_
        refine am_icmp_lt F (tgt := 63) dX10_isLegal_47 (by decide) (fun c22 => ?_) (fun c22 => ?_)
        · have h := (if_pos c22).symm.trans h
          refine am_iload_n F 4 dX10_isLegal_63 rfl rfl ?_
          refine am_if_eq F (tgt := 80) dX10_isLegal_64 (by decide) (fun c17 => ?_) (fun c17 => ?_)
          · have h := (if_pos c17).symm.trans h
            refine am_iconst F (v := (1 : Int32)) dX10_isLegal_80 (by decide) ?_
            refine am_goto F (tgt := 85) dX10_isLegal_81 (by decide) ?_
            exact am_zret F hr (by decide) h dX10_isLegal_85
          · have h := (if_neg c17).symm.trans h
            refine am_aload_n F 1 dX10_isLegal_67 rfl rfl ?_
            refine am_iload_n F 2 dX10_isLegal_68 rfl rfl ?_
            refine am_iload_n F 3 dX10_isLegal_69 rfl rfl ?_
            refine am_iload F 0 dX10_isLegal_70 rfl ?_
            refine am_iload F 5 dX10_isLegal_72 rfl ?_
            obtain ⟨v15, M14, h13, h⟩ := am_bE h
            refine am_callVi F [.int a1, .int a2, .int v3, .int a4] lyk_174 (by decide) rfl cw_X10_89 (c_X10_isSwap l D E z a1 a2 v3 a4 M11 v15 M14 h13) yn_X10_isSwap rfl ⟨Nat.le_of_ble_eq_true rfl, Nat.le_of_ble_eq_true rfl⟩ rfl rfl (Nat.le_of_ble_eq_true rfl) ⟨Nat.zero_le _, Nat.zero_le _⟩ dX10_isLegal_74 rfl ?_
            refine am_if_ne F (tgt := 84) dX10_isLegal_77 (by decide) (fun c16 => ?_) (fun c16 => ?_)
            · have h := (if_neg c16).symm.trans h
              refine am_iconst F (v := (0 : Int32)) dX10_isLegal_84 (by decide) ?_
              exact am_zret F hr (by decide) h dX10_isLegal_85
            · have h := (if_pos c16).symm.trans h
              refine am_iconst F (v := (1 : Int32)) dX10_isLegal_80 (by decide) ?_
              refine am_goto F (tgt := 85) dX10_isLegal_81 (by decide) ?_
              exact am_zret F hr (by decide) h dX10_isLegal_85
        · have h := (if_neg c22).symm.trans h
          refine am_aload_n F 1 dX10_isLegal_50 rfl rfl ?_
          refine am_iload_n F 2 dX10_isLegal_51 rfl rfl ?_
          refine am_iload_n F 4 dX10_isLegal_52 rfl rfl ?_
          refine am_iconst F (v := (5 : Int32)) dX10_isLegal_53 (by decide) ?_
          refine am_isub F dX10_isLegal_54 ?_
          refine am_iload F 5 dX10_isLegal_55 rfl ?_
          obtain ⟨v20, M19, h18, h⟩ := am_bE h
          refine am_callVi F [.int a1, .int (a3 - (5 : Int32)), .int a4] lyk_174 (by decide) rfl cw_X10_86 (c_X10_isLiftFree l D E z a1 (a3 - (5 : Int32)) a4 M11 v20 M19 h18) yn_X10_isLiftFree rfl ⟨Nat.le_of_ble_eq_true rfl, Nat.le_of_ble_eq_true rfl⟩ rfl rfl (Nat.le_of_ble_eq_true rfl) ⟨Nat.zero_le _, Nat.zero_le _⟩ dX10_isLegal_57 rfl ?_
          refine am_goto F (tgt := 85) dX10_isLegal_60 (by decide) ?_
          obtain ⟨q21, h⟩ := am_cE h
          exact am_zret F hr q21 h dX10_isLegal_85
      · have h := (if_pos c23).symm.trans h
        refine am_iconst F (v := (0 : Int32)) dX10_isLegal_43 (by decide) ?_
        exact am_zret F hr (by decide) h dX10_isLegal_44
/-! AisleSchedulerModel.spreads(III)V -/
abbrev rm_X10_spreads : Room := { frames := 4, cells := 0, slots := 0, locals := 95 }
theorem yn_X10_spreads : am_yn yX10_spreads 3 := ⟨⟨by decide +kernel, by decide +kernel⟩, by decide +kernel⟩
def g_X10_spreads_L3 (a1 : Int32) (a2 : Int32) (a3 : Int32) : Nat → Int32 → am_M → Option ((Unit) × am_M)
  | 0, _, _ => none
  | n + 1, a4, M => (if (7 : Int32) ≤ a4 then (some ((), M)) else (am_b (g_X10_isLegal a1 a2 a4 a3 M) (fun v3 M2 => (if v3 = (0 : Int32) then (g_X10_spreads_L3 a1 a2 a3 n (a4 + (1 : Int32)) M2) else (am_b (g_X10_takes a4 M2) (fun v6 M5 => (am_b (g_X10_moved a2 a4 M5) (fun v9 M8 => (am_ci (((40 : Int32) * (a3 + v6)) + v9) 1240 (g_X10_spreads_L3 a1 a2 a3 n (a4 + (1 : Int32)) (am_s M8 182 (((40 : Int32) * (a3 + v6)) + v9).toNatClampNeg (1 : Int32))))))))))))
set_option maxHeartbeats 4000000 in
set_option maxRecDepth 100000 in
theorem cl_X10_spreads_L3 {l : Launch} {p : Program} {e : Env} {s : State} {m : MethodId} {args : Array Value} {below : List Frame} {meth : Method} {c : Code} {Q : State → Prop} {D : va_G} {E : Nat → ClassId} {z : Nat} (F : am_F p s m args meth c cX10_spreads 5 RX10 D E z) (a1 : Int32) (a2 : Int32) (a3 : Int32) : ∀ (n : Nat) (a4 : Int32) (M : am_M) (x : Unit) (M1 : am_M), g_X10_spreads_L3 a1 a2 a3 n a4 M = some (x, M1) → (am_W p l e rm_X10_spreads s m args below meth c Q 5 D E z 0 0 M1 52 [] []) → am_W p l e rm_X10_spreads s m args below meth c Q 5 D E z 0 0 M 3 [(0, .ref (z + 174)), (1, .int a1), (2, .int a2), (3, .int a3), (4, .int a4)] [] := by
  intro n
  induction n with
  | zero => intro a4 M x M1 h K; cases h
  | succ n ih =>
    intro a4 M x M1 h K
    rw [g_X10_spreads_L3] at h
    refine am_iload F 4 dX10_spreads_3 rfl ?_
    refine am_bipush F (v := (7 : Int32)) dX10_spreads_5 (by decide) ?_
    refine am_icmp_ge F (tgt := 52) dX10_spreads_7 (by decide) (fun c12 => ?_) (fun c12 => ?_)
    · have h := (if_pos c12).symm.trans h
      cases h
      exact am_sub (lv' := []) [] rfl (K)
    · have h := (if_neg c12).symm.trans h
      refine am_aload_n F 0 dX10_spreads_10 rfl rfl ?_
      refine am_iload_n F 1 dX10_spreads_11 rfl rfl ?_
      refine am_iload_n F 2 dX10_spreads_12 rfl rfl ?_
      refine am_iload F 4 dX10_spreads_13 rfl ?_
      refine am_iload_n F 3 dX10_spreads_15 rfl rfl ?_
      obtain ⟨v3, M2, h1, h⟩ := am_bE h
      refine am_callVi F [.int a1, .int a2, .int a4, .int a3] lyk_174 (by decide) rfl cw_X10_97 (c_X10_isLegal l D E z a1 a2 a4 a3 M v3 M2 h1) yn_X10_isLegal rfl ⟨Nat.le_of_ble_eq_true rfl, Nat.le_of_ble_eq_true rfl⟩ rfl rfl (Nat.le_of_ble_eq_true rfl) ⟨Nat.zero_le _, Nat.zero_le _⟩ dX10_spreads_16 rfl ?_
      refine am_if_eq F (tgt := 46) dX10_spreads_19 (by decide) (fun c11 => ?_) (fun c11 => ?_)
      · have h := (if_pos c11).symm.trans h
        refine am_iinc F [(4, .int (a4 + (1 : Int32))), (0, .ref (z + 174)), (1, .int a1), (2, .int a2), (3, .int a3)] 4 dX10_spreads_46 (by decide) rfl rfl rfl ?_
        refine am_goto F (tgt := 3) dX10_spreads_49 (by decide) ?_
        exact am_sub (lv' := [(0, .ref (z + 174)), (1, .int a1), (2, .int a2), (3, .int a3), (4, .int (a4 + (1 : Int32)))]) [1, 2, 3, 4, 0] rfl (ih (a4 + (1 : Int32)) M2 _ _ h K)
      · have h := (if_neg c11).symm.trans h
        refine am_aload_n F 0 dX10_spreads_22 rfl rfl ?_
        refine gf_X10_38 F lyk_174 dX10_spreads_23 ?_
        refine am_bipush F (v := (40 : Int32)) dX10_spreads_26 (by decide) ?_
        refine am_iload_n F 3 dX10_spreads_28 rfl rfl ?_
        refine am_iload F 4 dX10_spreads_29 rfl ?_
        obtain ⟨v6, M5, h4, h⟩ := am_bE h
        refine am_callSi F [.int a4] cw_X10_68 rfl (c_X10_takes l D E z a4 M2 v6 M5 h4) yn_X10_takes rfl ⟨Nat.le_of_ble_eq_true rfl, Nat.le_of_ble_eq_true rfl⟩ rfl rfl (Nat.le_of_ble_eq_true rfl) ⟨Nat.zero_le _, Nat.zero_le _⟩ dX10_spreads_31 rfl ?_
        refine am_iadd F dX10_spreads_34 ?_
        refine am_imul F dX10_spreads_35 ?_
        refine am_aload_n F 0 dX10_spreads_36 rfl rfl ?_
        refine am_iload_n F 2 dX10_spreads_37 rfl rfl ?_
        refine am_iload F 4 dX10_spreads_38 rfl ?_
        obtain ⟨v9, M8, h7, h⟩ := am_bE h
        refine am_callVi F [.int a2, .int a4] lyk_174 (by decide) rfl cw_X10_72 (c_X10_moved l D E z a2 a4 M5 v9 M8 h7) yn_X10_moved rfl ⟨Nat.le_of_ble_eq_true rfl, Nat.le_of_ble_eq_true rfl⟩ rfl rfl (Nat.le_of_ble_eq_true rfl) ⟨Nat.zero_le _, Nat.zero_le _⟩ dX10_spreads_40 rfl ?_
        refine am_iadd F dX10_spreads_43 ?_
        refine am_iconst F (v := (1 : Int32)) dX10_spreads_44 (by decide) ?_
        obtain ⟨q10, h⟩ := am_ciE h
        refine am_zast F lyk_182 (by decide) q10 dX10_spreads_45 ?_
        refine am_iinc F [(4, .int (a4 + (1 : Int32))), (0, .ref (z + 174)), (1, .int a1), (2, .int a2), (3, .int a3)] 4 dX10_spreads_46 (by decide) rfl rfl rfl ?_
        refine am_goto F (tgt := 3) dX10_spreads_49 (by decide) ?_
        exact am_sub (lv' := [(0, .ref (z + 174)), (1, .int a1), (2, .int a2), (3, .int a3), (4, .int (a4 + (1 : Int32)))]) [1, 2, 3, 4, 0] rfl (ih (a4 + (1 : Int32)) (am_s M8 182 (((40 : Int32) * (a3 + v6)) + v9).toNatClampNeg (1 : Int32)) _ _ h K)
def g_X10_spreads (a1 : Int32) (a2 : Int32) (a3 : Int32) (M : am_M) : Option (Unit × am_M) := (am_b (g_X10_spreads_L3 a1 a2 a3 am_fu (0 : Int32) M) (fun x13 M14 => (some ((), M14))))
set_option maxHeartbeats 4000000 in
set_option maxRecDepth 100000 in
theorem c_X10_spreads (l : Launch) (D : va_G) (E : Nat → ClassId) (z : Nat) (a1 : Int32) (a2 : Int32) (a3 : Int32) (M : am_M)  (M1 : am_M) (h : g_X10_spreads a1 a2 a3 M = some ((), M1)) : am_Mv l yX10_spreads cX10_spreads 5 none rm_X10_spreads D E z [.ref (z + 174), .int a1, .int a2, .int a3] M M1 := by
  unfold g_X10_spreads at h
  refine am_of (own := RX10) (by decide +kernel) rfl (by exact Nat.le_of_ble_eq_true rfl) ?_
  intro p e s m args below meth c F hr
  show am_W p l e rm_X10_spreads s m args below meth c _ 5 D E z 0 0 M 0 [(0, .ref (z + 174)), (1, .int a1), (2, .int a2), (3, .int a3)] []
  refine am_iconst F (v := (0 : Int32)) dX10_spreads_0 (by decide) ?_
  refine am_istore F [(4, .int (0 : Int32)), (0, .ref (z + 174)), (1, .int a1), (2, .int a2), (3, .int a3)] dX10_spreads_1 (by decide) rfl ?_
  obtain ⟨x13, M14, h15, h⟩ := am_bE h
  refine am_sub (lv' := [(0, .ref (z + 174)), (1, .int a1), (2, .int a2), (3, .int a3), (4, .int (0 : Int32))]) [1, 2, 3, 4, 0] rfl (cl_X10_spreads_L3 F a1 a2 a3 am_fu (0 : Int32) M x13 M14 h15 ?_)
  exact am_vret F hr h dX10_spreads_52
/-! AisleSchedulerModel.reaches(III)V -/
abbrev rm_X10_reaches : Room := { frames := 5, cells := 0, slots := 0, locals := 119 }
theorem yn_X10_reaches : am_yn yX10_reaches 3 := ⟨⟨by decide +kernel, by decide +kernel⟩, by decide +kernel⟩
def g_X10_reaches_L3 (a1 : Int32) (a2 : Int32) (a3 : Int32) : Nat → Int32 → am_M → Option ((Unit) × am_M)
  | 0, _, _ => none
  | n + 1, a4, M => (if (1240 : Int32) ≤ a4 then (some ((), M)) else (am_ci a4 1240 (g_X10_reaches_L3 a1 a2 a3 n (a4 + (1 : Int32)) (am_s M 182 a4.toNatClampNeg (0 : Int32)))))
set_option maxHeartbeats 4000000 in
set_option maxRecDepth 100000 in
theorem cl_X10_reaches_L3 {l : Launch} {p : Program} {e : Env} {s : State} {m : MethodId} {args : Array Value} {below : List Frame} {meth : Method} {c : Code} {Q : State → Prop} {D : va_G} {E : Nat → ClassId} {z : Nat} (F : am_F p s m args meth c cX10_reaches 6 RX10 D E z) (a1 : Int32) (a2 : Int32) (a3 : Int32) : ∀ (n : Nat) (a4 : Int32) (M : am_M) (x : Unit) (M1 : am_M), g_X10_reaches_L3 a1 a2 a3 n a4 M = some (x, M1) → (am_W p l e rm_X10_reaches s m args below meth c Q 6 D E z 0 0 M1 25 [(0, .ref (z + 174)), (1, .int a1), (2, .int a2), (3, .int a3)] []) → am_W p l e rm_X10_reaches s m args below meth c Q 6 D E z 0 0 M 3 [(0, .ref (z + 174)), (1, .int a1), (2, .int a2), (3, .int a3), (4, .int a4)] [] := by
  intro n
  induction n with
  | zero => intro a4 M x M1 h K; cases h
  | succ n ih =>
    intro a4 M x M1 h K
    rw [g_X10_reaches_L3] at h
    refine am_iload F 4 dX10_reaches_3 rfl ?_
    refine am_sipush F (v := (1240 : Int32)) dX10_reaches_5 (by decide) ?_
    refine am_icmp_ge F (tgt := 25) dX10_reaches_8 (by decide) (fun c2 => ?_) (fun c2 => ?_)
    · have h := (if_pos c2).symm.trans h
      cases h
      exact am_sub (lv' := [(0, .ref (z + 174)), (1, .int a1), (2, .int a2), (3, .int a3)]) [0, 1, 2, 3] rfl (K)
    · have h := (if_neg c2).symm.trans h
      refine am_aload_n F 0 dX10_reaches_11 rfl rfl ?_
      refine gf_X10_38 F lyk_174 dX10_reaches_12 ?_
      refine am_iload F 4 dX10_reaches_15 rfl ?_
      refine am_iconst F (v := (0 : Int32)) dX10_reaches_17 (by decide) ?_
      obtain ⟨q1, h⟩ := am_ciE h
      refine am_zast F lyk_182 (by decide) q1 dX10_reaches_18 ?_
      refine am_iinc F [(4, .int (a4 + (1 : Int32))), (0, .ref (z + 174)), (1, .int a1), (2, .int a2), (3, .int a3)] 4 dX10_reaches_19 (by decide) rfl rfl rfl ?_
      refine am_goto F (tgt := 3) dX10_reaches_22 (by decide) ?_
      exact am_sub (lv' := [(0, .ref (z + 174)), (1, .int a1), (2, .int a2), (3, .int a3), (4, .int (a4 + (1 : Int32)))]) [1, 2, 3, 4, 0] rfl (ih (a4 + (1 : Int32)) (am_s M 182 a4.toNatClampNeg (0 : Int32)) _ _ h K)
def g_X10_reaches_L50 (a1 : Int32) (a4 : Int32) : Nat → Int32 → am_M → Option ((Unit) × am_M)
  | 0, _, _ => none
  | n + 1, a5, M => (if (40 : Int32) ≤ a5 then (some ((), M)) else (am_ci (((40 : Int32) * a4) + a5) 1240 (if (am_g M 182 (((40 : Int32) * a4) + a5).toNatClampNeg) = (0 : Int32) then (g_X10_reaches_L50 a1 a4 n (a5 + (1 : Int32)) M) else (am_b (g_X10_spreads a1 a5 a4 M) (fun _ M9 => (g_X10_reaches_L50 a1 a4 n (a5 + (1 : Int32)) M9))))))
set_option maxHeartbeats 4000000 in
set_option maxRecDepth 100000 in
theorem cl_X10_reaches_L50 {l : Launch} {p : Program} {e : Env} {s : State} {m : MethodId} {args : Array Value} {below : List Frame} {meth : Method} {c : Code} {Q : State → Prop} {D : va_G} {E : Nat → ClassId} {z : Nat} (F : am_F p s m args meth c cX10_reaches 6 RX10 D E z) (a1 : Int32) (a4 : Int32) : ∀ (n : Nat) (a5 : Int32) (M : am_M) (x : Unit) (M1 : am_M), g_X10_reaches_L50 a1 a4 n a5 M = some (x, M1) → (am_W p l e rm_X10_reaches s m args below meth c Q 6 D E z 0 0 M1 88 [(0, .ref (z + 174)), (1, .int a1), (4, .int a4)] []) → am_W p l e rm_X10_reaches s m args below meth c Q 6 D E z 0 0 M 50 [(0, .ref (z + 174)), (1, .int a1), (4, .int a4), (5, .int a5)] [] := by
  intro n
  induction n with
  | zero => intro a5 M x M1 h K; cases h
  | succ n ih =>
    intro a5 M x M1 h K
    rw [g_X10_reaches_L50] at h
    refine am_iload F 3 dX10_reaches_50 rfl ?_
    refine am_bipush F (v := (40 : Int32)) dX10_reaches_52 (by decide) ?_
    refine am_icmp_ge F (tgt := 88) dX10_reaches_54 (by decide) (fun c11 => ?_) (fun c11 => ?_)
    · have h := (if_pos c11).symm.trans h
      cases h
      exact am_sub (lv' := [(0, .ref (z + 174)), (1, .int a1), (4, .int a4)]) [0, 1, 2] rfl (K)
    · have h := (if_neg c11).symm.trans h
      refine am_aload_n F 0 dX10_reaches_57 rfl rfl ?_
      refine gf_X10_38 F lyk_174 dX10_reaches_58 ?_
      refine am_bipush F (v := (40 : Int32)) dX10_reaches_61 (by decide) ?_
      refine am_iload F 2 dX10_reaches_63 rfl ?_
      refine am_imul F dX10_reaches_65 ?_
      refine am_iload F 3 dX10_reaches_66 rfl ?_
      refine am_iadd F dX10_reaches_68 ?_
      obtain ⟨q7, h⟩ := am_ciE h
      refine am_zald F lyk_182 q7 dX10_reaches_69 ?_
      refine am_if_eq F (tgt := 82) dX10_reaches_70 (by decide) (fun c10 => ?_) (fun c10 => ?_)
      · have h := (if_pos c10).symm.trans h
        refine am_iinc F [(5, .int (a5 + (1 : Int32))), (0, .ref (z + 174)), (1, .int a1), (4, .int a4)] 3 dX10_reaches_82 (by decide) rfl rfl rfl ?_
        refine am_goto F (tgt := 50) dX10_reaches_85 (by decide) ?_
        exact am_sub (lv' := [(0, .ref (z + 174)), (1, .int a1), (4, .int a4), (5, .int (a5 + (1 : Int32)))]) [1, 2, 3, 0] rfl (ih (a5 + (1 : Int32)) M _ _ h K)
      · have h := (if_neg c10).symm.trans h
        refine am_aload_n F 0 dX10_reaches_73 rfl rfl ?_
        refine am_iload_n F 1 dX10_reaches_74 rfl rfl ?_
        refine am_iload F 3 dX10_reaches_75 rfl ?_
        refine am_iload F 2 dX10_reaches_77 rfl ?_
        obtain ⟨_, M9, h8, h⟩ := am_bE h
        refine am_callVv F [.int a1, .int a5, .int a4] lyk_174 (by decide) rfl cw_X10_93 (c_X10_spreads l D E z a1 a5 a4 M M9 h8) yn_X10_spreads rfl ⟨Nat.le_of_ble_eq_true rfl, Nat.le_of_ble_eq_true rfl⟩ rfl rfl (Nat.le_of_ble_eq_true rfl) ⟨Nat.zero_le _, Nat.zero_le _⟩ dX10_reaches_79 rfl ?_
        refine am_iinc F [(5, .int (a5 + (1 : Int32))), (0, .ref (z + 174)), (1, .int a1), (4, .int a4)] 3 dX10_reaches_82 (by decide) rfl rfl rfl ?_
        refine am_goto F (tgt := 50) dX10_reaches_85 (by decide) ?_
        exact am_sub (lv' := [(0, .ref (z + 174)), (1, .int a1), (4, .int a4), (5, .int (a5 + (1 : Int32)))]) [1, 2, 3, 0] rfl (ih (a5 + (1 : Int32)) M9 _ _ h K)
def g_X10_reaches_L40 (a1 : Int32) : Nat → Int32 → am_M → Option ((Unit) × am_M)
  | 0, _, _ => none
  | n + 1, a4, M => (if (30 : Int32) ≤ a4 then (some ((), M)) else (am_b (g_X10_reaches_L50 a1 a4 am_fu (0 : Int32) M) (fun x12 M13 => (g_X10_reaches_L40 a1 n (a4 + (1 : Int32)) M13))))
set_option maxHeartbeats 4000000 in
set_option maxRecDepth 100000 in
theorem cl_X10_reaches_L40 {l : Launch} {p : Program} {e : Env} {s : State} {m : MethodId} {args : Array Value} {below : List Frame} {meth : Method} {c : Code} {Q : State → Prop} {D : va_G} {E : Nat → ClassId} {z : Nat} (F : am_F p s m args meth c cX10_reaches 6 RX10 D E z) (a1 : Int32) : ∀ (n : Nat) (a4 : Int32) (M : am_M) (x : Unit) (M1 : am_M), g_X10_reaches_L40 a1 n a4 M = some (x, M1) → (am_W p l e rm_X10_reaches s m args below meth c Q 6 D E z 0 0 M1 94 [] []) → am_W p l e rm_X10_reaches s m args below meth c Q 6 D E z 0 0 M 40 [(0, .ref (z + 174)), (1, .int a1), (4, .int a4)] [] := by
  intro n
  induction n with
  | zero => intro a4 M x M1 h K; cases h
  | succ n ih =>
    intro a4 M x M1 h K
    rw [g_X10_reaches_L40] at h
    refine am_iload F 2 dX10_reaches_40 rfl ?_
    refine am_bipush F (v := (30 : Int32)) dX10_reaches_42 (by decide) ?_
    refine am_icmp_ge F (tgt := 94) dX10_reaches_44 (by decide) (fun c15 => ?_) (fun c15 => ?_)
    · have h := (if_pos c15).symm.trans h
      cases h
      exact am_sub (lv' := []) [] rfl (K)
    · have h := (if_neg c15).symm.trans h
      refine am_iconst F (v := (0 : Int32)) dX10_reaches_47 (by decide) ?_
      refine am_istore F [(5, .int (0 : Int32)), (0, .ref (z + 174)), (1, .int a1), (4, .int a4)] dX10_reaches_48 (by decide) rfl ?_
      obtain ⟨x12, M13, h14, h⟩ := am_bE h
      refine am_sub (lv' := [(0, .ref (z + 174)), (1, .int a1), (4, .int a4), (5, .int (0 : Int32))]) [1, 2, 3, 0] rfl (cl_X10_reaches_L50 F a1 a4 am_fu (0 : Int32) M x12 M13 h14 ?_)
      refine am_iinc F [(4, .int (a4 + (1 : Int32))), (0, .ref (z + 174)), (1, .int a1)] 2 dX10_reaches_88 (by decide) rfl rfl rfl ?_
      refine am_goto F (tgt := 40) dX10_reaches_91 (by decide) ?_
      exact am_sub (lv' := [(0, .ref (z + 174)), (1, .int a1), (4, .int (a4 + (1 : Int32)))]) [1, 2, 0] rfl (ih (a4 + (1 : Int32)) M13 _ _ h K)
def g_X10_reaches (a1 : Int32) (a2 : Int32) (a3 : Int32) (M : am_M) : Option (Unit × am_M) := (am_b (g_X10_reaches_L3 a1 a2 a3 am_fu (0 : Int32) M) (fun x3 M4 => (am_ci (((40 : Int32) * a3) + a2) 1240 (am_b (g_X10_reaches_L40 a1 am_fu a3 (am_s M4 182 (((40 : Int32) * a3) + a2).toNatClampNeg (1 : Int32))) (fun x16 M17 => (some ((), M17)))))))
set_option maxHeartbeats 4000000 in
set_option maxRecDepth 100000 in
theorem c_X10_reaches (l : Launch) (D : va_G) (E : Nat → ClassId) (z : Nat) (a1 : Int32) (a2 : Int32) (a3 : Int32) (M : am_M)  (M1 : am_M) (h : g_X10_reaches a1 a2 a3 M = some ((), M1)) : am_Mv l yX10_reaches cX10_reaches 6 none rm_X10_reaches D E z [.ref (z + 174), .int a1, .int a2, .int a3] M M1 := by
  unfold g_X10_reaches at h
  refine am_of (own := RX10) (by decide +kernel) rfl (by exact Nat.le_of_ble_eq_true rfl) ?_
  intro p e s m args below meth c F hr
  show am_W p l e rm_X10_reaches s m args below meth c _ 6 D E z 0 0 M 0 [(0, .ref (z + 174)), (1, .int a1), (2, .int a2), (3, .int a3)] []
  refine am_iconst F (v := (0 : Int32)) dX10_reaches_0 (by decide) ?_
  refine am_istore F [(4, .int (0 : Int32)), (0, .ref (z + 174)), (1, .int a1), (2, .int a2), (3, .int a3)] dX10_reaches_1 (by decide) rfl ?_
  obtain ⟨x3, M4, h5, h⟩ := am_bE h
  refine am_sub (lv' := [(0, .ref (z + 174)), (1, .int a1), (2, .int a2), (3, .int a3), (4, .int (0 : Int32))]) [1, 2, 3, 4, 0] rfl (cl_X10_reaches_L3 F a1 a2 a3 am_fu (0 : Int32) M x3 M4 h5 ?_)
  refine am_aload_n F 0 dX10_reaches_25 rfl rfl ?_
  refine gf_X10_38 F lyk_174 dX10_reaches_26 ?_
  refine am_bipush F (v := (40 : Int32)) dX10_reaches_29 (by decide) ?_
  refine am_iload_n F 3 dX10_reaches_31 rfl rfl ?_
  refine am_imul F dX10_reaches_32 ?_
  refine am_iload_n F 2 dX10_reaches_33 rfl rfl ?_
  refine am_iadd F dX10_reaches_34 ?_
  refine am_iconst F (v := (1 : Int32)) dX10_reaches_35 (by decide) ?_
  obtain ⟨q6, h⟩ := am_ciE h
  refine am_zast F lyk_182 (by decide) q6 dX10_reaches_36 ?_
  refine am_iload_n F 3 dX10_reaches_37 rfl rfl ?_
  refine am_istore F [(4, .int a3), (0, .ref (z + 174)), (1, .int a1), (2, .int a2), (3, .int a3)] dX10_reaches_38 (by decide) rfl ?_
  obtain ⟨x16, M17, h18, h⟩ := am_bE h
  refine am_sub (lv' := [(0, .ref (z + 174)), (1, .int a1), (4, .int a3)]) [1, 2, 0] rfl (cl_X10_reaches_L40 F a1 am_fu a3 (am_s M4 182 (((40 : Int32) * a3) + a2).toNatClampNeg (1 : Int32)) x16 M17 h18 ?_)
  exact am_vret F hr h dX10_reaches_94
