/-! printed by wip/whole/drive.py -/
/-! AisleScheduler.raise(I)V -/
abbrev rm_X9_raise : Room := { frames := 6, cells := 1, slots := 6, locals := 100 }
theorem yn_X9_raise : am_yn yX9_raise 1 := ⟨⟨by decide +kernel, by decide +kernel⟩, by decide +kernel⟩
def g_X9_raise (a0 : Int32) (M : am_M) : Option ((Unit ⊕ Nat) × am_M) := (if a0 = (1 : Int32) then (some ((.inr 1 : Unit ⊕ Nat), M)) else (if a0 = (2 : Int32) then (some ((.inr 2 : Unit ⊕ Nat), M)) else (if a0 = (3 : Int32) then (some ((.inr 3 : Unit ⊕ Nat), M)) else (some ((.inl () : Unit ⊕ Nat), M)))))
set_option maxHeartbeats 4000000 in
set_option maxRecDepth 100000 in
theorem c_X9_raise (l : Launch) (hls : l.stackTraces = false) (D : va_G) (E : Nat → ClassId) (z : Nat) (a0 : Int32) (M : am_M) (o : Unit ⊕ Nat) (M1 : am_M) (h : g_X9_raise a0 M = some (o, M1)) : am_Xv l yX9_raise cX9_raise 1 none rm_X9_raise D E z [.int a0] M 1 6 o M1 := by
  unfold g_X9_raise at h
  refine am_xof (own := RX9) (by decide +kernel) rfl (by exact Nat.le_of_ble_eq_true rfl) ?_
  intro p e s m args below meth c F hr ht0
  show am_W p l e rm_X9_raise s m args below meth c _ 1 D E z 0 0 M 0 [(0, .int a0)] []
  refine am_iload_n F 0 dX9_raise_0 rfl rfl ?_
  refine am_iconst F (v := (1 : Int32)) dX9_raise_1 (by decide) ?_
  refine am_icmp_ne F (tgt := 16) dX9_raise_2 (by decide) (fun c3 => ?_) (fun c3 => ?_)
  · have h := (if_neg c3).symm.trans h
    refine am_iload_n F 0 dX9_raise_16 rfl rfl ?_
    refine am_iconst F (v := (2 : Int32)) dX9_raise_17 (by decide) ?_
    refine am_icmp_ne F (tgt := 32) dX9_raise_18 (by decide) (fun c2 => ?_) (fun c2 => ?_)
    · have h := (if_neg c2).symm.trans h
      refine am_iload_n F 0 dX9_raise_32 rfl rfl ?_
      refine am_iconst F (v := (3 : Int32)) dX9_raise_33 (by decide) ?_
      refine am_icmp_ne F (tgt := 48) dX9_raise_34 (by decide) (fun c1 => ?_) (fun c1 => ?_)
      · have h := (if_neg c1).symm.trans h
        exact am_xvret F hr ⟨Nat.le_of_ble_eq_true rfl, Nat.le_of_ble_eq_true rfl⟩ h dX9_raise_48
      · have h := (if_pos c1).symm.trans h
        exact am_throwW F ht0 hls xt_X9_218_402_222 ⟨Nat.le_of_ble_eq_true rfl, Nat.le_of_ble_eq_true rfl, Nat.le_of_ble_eq_true rfl, Nat.le_of_ble_eq_true rfl⟩ ⟨Nat.le_of_ble_eq_true rfl, Nat.le_of_ble_eq_true rfl⟩ h dX9_raise_37 dX9_raise_40 dX9_raise_41 dX9_raise_44 dX9_raise_47
    · have h := (if_pos c2).symm.trans h
      exact am_throwW F ht0 hls xt_X9_132_400_136 ⟨Nat.le_of_ble_eq_true rfl, Nat.le_of_ble_eq_true rfl, Nat.le_of_ble_eq_true rfl, Nat.le_of_ble_eq_true rfl⟩ ⟨Nat.le_of_ble_eq_true rfl, Nat.le_of_ble_eq_true rfl⟩ h dX9_raise_21 dX9_raise_24 dX9_raise_25 dX9_raise_28 dX9_raise_31
  · have h := (if_pos c3).symm.trans h
    exact am_throwW F ht0 hls xt_X9_395_397_399 ⟨Nat.le_of_ble_eq_true rfl, Nat.le_of_ble_eq_true rfl, Nat.le_of_ble_eq_true rfl, Nat.le_of_ble_eq_true rfl⟩ ⟨Nat.le_of_ble_eq_true rfl, Nat.le_of_ble_eq_true rfl⟩ h dX9_raise_5 dX9_raise_8 dX9_raise_9 dX9_raise_12 dX9_raise_15
/-! AisleScheduler.setCell(II)I -/
abbrev rm_X9_setCell : Room := { frames := 7, cells := 1, slots := 6, locals := 120 }
theorem yn_X9_setCell : am_yn yX9_setCell 2 := ⟨⟨by decide +kernel, by decide +kernel⟩, by decide +kernel⟩
def g_X9_setCell (a1 : Int32) (a2 : Int32) (M : am_M) : Option ((Int32 ⊕ Nat) × am_M) := (am_b (g_X9_at ((1 + 1) + 1) 40 a1 M) (fun v3 M2 => (am_b (g_X8_makeKind 1 a1 a2 M2) (fun v6 M5 => (am_bx (g_X9_raise v6 M5) (fun _ M8 => (some ((.inl v3 : Int32 ⊕ Nat), M8))))))))
set_option maxHeartbeats 4000000 in
set_option maxRecDepth 100000 in
theorem c_X9_setCell (l : Launch) (hls : l.stackTraces = false) (D : va_G) (E : Nat → ClassId) (z : Nat) (a1 : Int32) (a2 : Int32) (M : am_M) (o : Int32 ⊕ Nat) (M1 : am_M) (h : g_X9_setCell a1 a2 M = some (o, M1)) : am_Xi l yX9_setCell cX9_setCell 4 (some .int) rm_X9_setCell D E z [.ref (z + 0), .int a1, .int a2] M 1 6 o M1 := by
  unfold g_X9_setCell at h
  refine am_xof (own := RX9) (by decide +kernel) rfl (by exact Nat.le_of_ble_eq_true rfl) ?_
  intro p e s m args below meth c F hr ht0
  show am_W p l e rm_X9_setCell s m args below meth c _ 4 D E z 0 0 M 0 [(0, .ref (z + 0)), (1, .int a1), (2, .int a2)] []
  refine am_aload_n F 0 dX9_setCell_0 rfl rfl ?_
  refine gf_X9_12 F lyk_0 dX9_setCell_1 ?_
  refine gf_X9_59 F lyk_1 dX9_setCell_4 ?_
  refine gf_X9_63 F (lyf_8_floor lyk_1) dX9_setCell_7 ?_
  refine am_iload_n F 1 dX9_setCell_10 rfl rfl ?_
  obtain ⟨v3, M2, h1, h⟩ := am_bE h
  refine am_callSi F [.ref (z + ((1 + 1) + 1)), .int a1] cw_X9_69 rfl (c_X9_at l D E z ((1 + 1) + 1) 40 (lyf_1_kinds (lyf_8_floor lyk_1)) a1 M v3 M2 h1) yn_X9_at rfl ⟨Nat.le_of_ble_eq_true rfl, Nat.le_of_ble_eq_true rfl⟩ rfl rfl (Nat.le_of_ble_eq_true rfl) ⟨Nat.le_of_ble_eq_true rfl, Nat.le_of_ble_eq_true rfl⟩ dX9_setCell_11 rfl ?_
  refine am_istore_n F [(3, .int v3), (0, .ref (z + 0)), (1, .int a1), (2, .int a2)] dX9_setCell_14 rfl (by decide) rfl ?_
  refine am_aload_n F 1 dX9_setCell_15 rfl rfl ?_
  refine gf_X9_12 F lyk_0 dX9_setCell_16 ?_
  refine am_iload_n F 2 dX9_setCell_19 rfl rfl ?_
  refine am_iload_n F 3 dX9_setCell_20 rfl rfl ?_
  obtain ⟨v6, M5, h4, h⟩ := am_bE h
  refine am_callVi F [.int a1, .int a2] lyk_1 (by decide) rfl cw_X9_73 (c_X8_makeKind l D E z 1 lyk_1 a1 a2 M2 v6 M5 h4) yn_X8_makeKind rfl ⟨Nat.le_of_ble_eq_true rfl, Nat.le_of_ble_eq_true rfl⟩ rfl rfl (Nat.le_of_ble_eq_true rfl) ⟨Nat.le_of_ble_eq_true rfl, Nat.le_of_ble_eq_true rfl⟩ dX9_setCell_21 rfl ?_
  obtain ⟨o9, M8, h7, h⟩ := am_bxE h
  refine am_xcallSv F ht0 [.int v6] cw_X9_77 rfl (c_X9_raise l hls D E z v6 M5 o9 M8 h7) yn_X9_raise rfl ⟨Nat.le_of_ble_eq_true rfl, Nat.le_of_ble_eq_true rfl⟩ rfl rfl (Nat.le_of_ble_eq_true rfl) ⟨Nat.le_of_ble_eq_true rfl, Nat.le_of_ble_eq_true rfl⟩ ⟨Nat.le_of_ble_eq_true rfl, Nat.le_of_ble_eq_true rfl⟩ dX9_setCell_24 rfl h (fun _ _ h => ?_)
  refine am_iload_n F 0 dX9_setCell_27 rfl rfl ?_
  exact am_xiret F hr ⟨Nat.le_of_ble_eq_true rfl, Nat.le_of_ble_eq_true rfl⟩ h dX9_setCell_28
/-! AisleScheduler.demandCell(I)V -/
abbrev rm_X9_demandCell : Room := { frames := 6, cells := 1, slots := 6, locals := 100 }
theorem yn_X9_demandCell : am_yn yX9_demandCell 1 := ⟨⟨by decide +kernel, by decide +kernel⟩, by decide +kernel⟩
def g_X9_demandCell (a0 : Int32) (M : am_M) : Option ((Unit ⊕ Nat) × am_M) := (am_b (g_X9_isCell a0 M) (fun v3 M2 => (if v3 = (0 : Int32) then (some ((.inr 1 : Unit ⊕ Nat), M2)) else (some ((.inl () : Unit ⊕ Nat), M2)))))
set_option maxHeartbeats 4000000 in
set_option maxRecDepth 100000 in
theorem c_X9_demandCell (l : Launch) (hls : l.stackTraces = false) (D : va_G) (E : Nat → ClassId) (z : Nat) (a0 : Int32) (M : am_M) (o : Unit ⊕ Nat) (M1 : am_M) (h : g_X9_demandCell a0 M = some (o, M1)) : am_Xv l yX9_demandCell cX9_demandCell 1 none rm_X9_demandCell D E z [.int a0] M 1 6 o M1 := by
  unfold g_X9_demandCell at h
  refine am_xof (own := RX9) (by decide +kernel) rfl (by exact Nat.le_of_ble_eq_true rfl) ?_
  intro p e s m args below meth c F hr ht0
  show am_W p l e rm_X9_demandCell s m args below meth c _ 1 D E z 0 0 M 0 [(0, .int a0)] []
  refine am_iload_n F 0 dX9_demandCell_0 rfl rfl ?_
  obtain ⟨v3, M2, h1, h⟩ := am_bE h
  refine am_callSi F [.int a0] cw_X9_404 rfl (c_X9_isCell l D E z a0 M v3 M2 h1) yn_X9_isCell rfl ⟨Nat.le_of_ble_eq_true rfl, Nat.le_of_ble_eq_true rfl⟩ rfl rfl (Nat.le_of_ble_eq_true rfl) ⟨Nat.le_of_ble_eq_true rfl, Nat.le_of_ble_eq_true rfl⟩ dX9_demandCell_1 rfl ?_
  refine am_if_ne F (tgt := 18) dX9_demandCell_4 (by decide) (fun c4 => ?_) (fun c4 => ?_)
  · have h := (if_neg c4).symm.trans h
    exact am_xvret F hr ⟨Nat.le_of_ble_eq_true rfl, Nat.le_of_ble_eq_true rfl⟩ h dX9_demandCell_18
  · have h := (if_pos c4).symm.trans h
    exact am_throwW F ht0 hls xt_X9_395_397_399 ⟨Nat.le_of_ble_eq_true rfl, Nat.le_of_ble_eq_true rfl, Nat.le_of_ble_eq_true rfl, Nat.le_of_ble_eq_true rfl⟩ ⟨Nat.le_of_ble_eq_true rfl, Nat.le_of_ble_eq_true rfl⟩ h dX9_demandCell_7 dX9_demandCell_10 dX9_demandCell_11 dX9_demandCell_14 dX9_demandCell_17
/-! AisleScheduler.cell(I)I -/
abbrev rm_X9_cell : Room := { frames := 7, cells := 1, slots := 6, locals := 120 }
theorem yn_X9_cell : am_yn yX9_cell 1 := ⟨⟨by decide +kernel, by decide +kernel⟩, by decide +kernel⟩
def g_X9_cell (a1 : Int32) (M : am_M) : Option ((Int32 ⊕ Nat) × am_M) := (am_bx (g_X9_demandCell a1 M) (fun _ M2 => (am_b (g_X9_at ((1 + 1) + 1) 40 a1 M2) (fun v6 M5 => (some ((.inl v6 : Int32 ⊕ Nat), M5))))))
set_option maxHeartbeats 4000000 in
set_option maxRecDepth 100000 in
theorem c_X9_cell (l : Launch) (hls : l.stackTraces = false) (D : va_G) (E : Nat → ClassId) (z : Nat) (a1 : Int32) (M : am_M) (o : Int32 ⊕ Nat) (M1 : am_M) (h : g_X9_cell a1 M = some (o, M1)) : am_Xi l yX9_cell cX9_cell 2 (some .int) rm_X9_cell D E z [.ref (z + 0), .int a1] M 1 6 o M1 := by
  unfold g_X9_cell at h
  refine am_xof (own := RX9) (by decide +kernel) rfl (by exact Nat.le_of_ble_eq_true rfl) ?_
  intro p e s m args below meth c F hr ht0
  show am_W p l e rm_X9_cell s m args below meth c _ 2 D E z 0 0 M 0 [(0, .ref (z + 0)), (1, .int a1)] []
  refine am_iload_n F 1 dX9_cell_0 rfl rfl ?_
  obtain ⟨o3, M2, h1, h⟩ := am_bxE h
  refine am_xcallSv F ht0 [.int a1] cw_X9_81 rfl (c_X9_demandCell l hls D E z a1 M o3 M2 h1) yn_X9_demandCell rfl ⟨Nat.le_of_ble_eq_true rfl, Nat.le_of_ble_eq_true rfl⟩ rfl rfl (Nat.le_of_ble_eq_true rfl) ⟨Nat.le_of_ble_eq_true rfl, Nat.le_of_ble_eq_true rfl⟩ ⟨Nat.le_of_ble_eq_true rfl, Nat.le_of_ble_eq_true rfl⟩ dX9_cell_1 rfl h (fun _ _ h => ?_)
  refine am_aload_n F 0 dX9_cell_4 rfl rfl ?_
  refine gf_X9_12 F lyk_0 dX9_cell_5 ?_
  refine gf_X9_59 F lyk_1 dX9_cell_8 ?_
  refine gf_X9_63 F (lyf_8_floor lyk_1) dX9_cell_11 ?_
  refine am_iload_n F 1 dX9_cell_14 rfl rfl ?_
  obtain ⟨v6, M5, h4, h⟩ := am_bE h
  refine am_callSi F [.ref (z + ((1 + 1) + 1)), .int a1] cw_X9_69 rfl (c_X9_at l D E z ((1 + 1) + 1) 40 (lyf_1_kinds (lyf_8_floor lyk_1)) a1 M2 v6 M5 h4) yn_X9_at rfl ⟨Nat.le_of_ble_eq_true rfl, Nat.le_of_ble_eq_true rfl⟩ rfl rfl (Nat.le_of_ble_eq_true rfl) ⟨Nat.le_of_ble_eq_true rfl, Nat.le_of_ble_eq_true rfl⟩ dX9_cell_15 rfl ?_
  exact am_xiret F hr ⟨Nat.le_of_ble_eq_true rfl, Nat.le_of_ble_eq_true rfl⟩ h dX9_cell_18
/-! AisleScheduler.addLift(II)I -/
abbrev rm_X9_addLift : Room := { frames := 7, cells := 1, slots := 6, locals := 120 }
theorem yn_X9_addLift : am_yn yX9_addLift 2 := ⟨⟨by decide +kernel, by decide +kernel⟩, by decide +kernel⟩
def g_X9_addLift (a1 : Int32) (a2 : Int32) (M : am_M) : Option ((Int32 ⊕ Nat) × am_M) := (am_b (g_X8_makeLift 1 a1 a2 M) (fun v3 M2 => (am_bx (g_X9_raise v3 M2) (fun _ M5 => (some ((.inl ((am_g M5 (1 + 1) 3) - (1 : Int32)) : Int32 ⊕ Nat), M5))))))
set_option maxHeartbeats 4000000 in
set_option maxRecDepth 100000 in
theorem c_X9_addLift (l : Launch) (hls : l.stackTraces = false) (D : va_G) (E : Nat → ClassId) (z : Nat) (a1 : Int32) (a2 : Int32) (M : am_M) (o : Int32 ⊕ Nat) (M1 : am_M) (h : g_X9_addLift a1 a2 M = some (o, M1)) : am_Xi l yX9_addLift cX9_addLift 3 (some .int) rm_X9_addLift D E z [.ref (z + 0), .int a1, .int a2] M 1 6 o M1 := by
  unfold g_X9_addLift at h
  refine am_xof (own := RX9) (by decide +kernel) rfl (by exact Nat.le_of_ble_eq_true rfl) ?_
  intro p e s m args below meth c F hr ht0
  show am_W p l e rm_X9_addLift s m args below meth c _ 3 D E z 0 0 M 0 [(0, .ref (z + 0)), (1, .int a1), (2, .int a2)] []
  refine am_aload_n F 0 dX9_addLift_0 rfl rfl ?_
  refine gf_X9_12 F lyk_0 dX9_addLift_1 ?_
  refine am_iload_n F 1 dX9_addLift_4 rfl rfl ?_
  refine am_iload_n F 2 dX9_addLift_5 rfl rfl ?_
  obtain ⟨v3, M2, h1, h⟩ := am_bE h
  refine am_callVi F [.int a1, .int a2] lyk_1 (by decide) rfl cw_X9_84 (c_X8_makeLift l D E z 1 lyk_1 a1 a2 M v3 M2 h1) yn_X8_makeLift rfl ⟨Nat.le_of_ble_eq_true rfl, Nat.le_of_ble_eq_true rfl⟩ rfl rfl (Nat.le_of_ble_eq_true rfl) ⟨Nat.le_of_ble_eq_true rfl, Nat.le_of_ble_eq_true rfl⟩ dX9_addLift_6 rfl ?_
  obtain ⟨o6, M5, h4, h⟩ := am_bxE h
  refine am_xcallSv F ht0 [.int v3] cw_X9_77 rfl (c_X9_raise l hls D E z v3 M2 o6 M5 h4) yn_X9_raise rfl ⟨Nat.le_of_ble_eq_true rfl, Nat.le_of_ble_eq_true rfl⟩ rfl rfl (Nat.le_of_ble_eq_true rfl) ⟨Nat.le_of_ble_eq_true rfl, Nat.le_of_ble_eq_true rfl⟩ ⟨Nat.le_of_ble_eq_true rfl, Nat.le_of_ble_eq_true rfl⟩ dX9_addLift_9 rfl h (fun _ _ h => ?_)
  refine am_aload_n F 0 dX9_addLift_12 rfl rfl ?_
  refine gf_X9_12 F lyk_0 dX9_addLift_13 ?_
  refine gf_X9_59 F lyk_1 dX9_addLift_16 ?_
  refine gf_X9_87 F (lyf_8_floor lyk_1) dX9_addLift_19 ?_
  refine am_iconst F (v := (1 : Int32)) dX9_addLift_22 (by decide) ?_
  refine am_isub F dX9_addLift_23 ?_
  exact am_xiret F hr ⟨Nat.le_of_ble_eq_true rfl, Nat.le_of_ble_eq_true rfl⟩ h dX9_addLift_24
/-! AisleScheduler.addRobot(II)I -/
abbrev rm_X9_addRobot : Room := { frames := 7, cells := 1, slots := 6, locals := 120 }
theorem yn_X9_addRobot : am_yn yX9_addRobot 2 := ⟨⟨by decide +kernel, by decide +kernel⟩, by decide +kernel⟩
def g_X9_addRobot (a1 : Int32) (a2 : Int32) (M : am_M) : Option ((Int32 ⊕ Nat) × am_M) := (am_b (g_X8_makeRobot 1 a1 a2 M) (fun v3 M2 => (am_bx (g_X9_raise v3 M2) (fun _ M5 => (some ((.inl ((am_g M5 1 2) - (1 : Int32)) : Int32 ⊕ Nat), M5))))))
set_option maxHeartbeats 4000000 in
set_option maxRecDepth 100000 in
theorem c_X9_addRobot (l : Launch) (hls : l.stackTraces = false) (D : va_G) (E : Nat → ClassId) (z : Nat) (a1 : Int32) (a2 : Int32) (M : am_M) (o : Int32 ⊕ Nat) (M1 : am_M) (h : g_X9_addRobot a1 a2 M = some (o, M1)) : am_Xi l yX9_addRobot cX9_addRobot 3 (some .int) rm_X9_addRobot D E z [.ref (z + 0), .int a1, .int a2] M 1 6 o M1 := by
  unfold g_X9_addRobot at h
  refine am_xof (own := RX9) (by decide +kernel) rfl (by exact Nat.le_of_ble_eq_true rfl) ?_
  intro p e s m args below meth c F hr ht0
  show am_W p l e rm_X9_addRobot s m args below meth c _ 3 D E z 0 0 M 0 [(0, .ref (z + 0)), (1, .int a1), (2, .int a2)] []
  refine am_aload_n F 0 dX9_addRobot_0 rfl rfl ?_
  refine gf_X9_12 F lyk_0 dX9_addRobot_1 ?_
  refine am_iload_n F 1 dX9_addRobot_4 rfl rfl ?_
  refine am_iload_n F 2 dX9_addRobot_5 rfl rfl ?_
  obtain ⟨v3, M2, h1, h⟩ := am_bE h
  refine am_callVi F [.int a1, .int a2] lyk_1 (by decide) rfl cw_X9_90 (c_X8_makeRobot l D E z 1 lyk_1 a1 a2 M v3 M2 h1) yn_X8_makeRobot rfl ⟨Nat.le_of_ble_eq_true rfl, Nat.le_of_ble_eq_true rfl⟩ rfl rfl (Nat.le_of_ble_eq_true rfl) ⟨Nat.le_of_ble_eq_true rfl, Nat.le_of_ble_eq_true rfl⟩ dX9_addRobot_6 rfl ?_
  obtain ⟨o6, M5, h4, h⟩ := am_bxE h
  refine am_xcallSv F ht0 [.int v3] cw_X9_77 rfl (c_X9_raise l hls D E z v3 M2 o6 M5 h4) yn_X9_raise rfl ⟨Nat.le_of_ble_eq_true rfl, Nat.le_of_ble_eq_true rfl⟩ rfl rfl (Nat.le_of_ble_eq_true rfl) ⟨Nat.le_of_ble_eq_true rfl, Nat.le_of_ble_eq_true rfl⟩ ⟨Nat.le_of_ble_eq_true rfl, Nat.le_of_ble_eq_true rfl⟩ dX9_addRobot_9 rfl h (fun _ _ h => ?_)
  refine am_aload_n F 0 dX9_addRobot_12 rfl rfl ?_
  refine gf_X9_12 F lyk_0 dX9_addRobot_13 ?_
  refine gf_X9_53 F lyk_1 dX9_addRobot_16 ?_
  refine am_iconst F (v := (1 : Int32)) dX9_addRobot_19 (by decide) ?_
  refine am_isub F dX9_addRobot_20 ?_
  exact am_xiret F hr ⟨Nat.le_of_ble_eq_true rfl, Nat.le_of_ble_eq_true rfl⟩ h dX9_addRobot_21
/-! AisleScheduler.demandRobot(I)V -/
abbrev rm_X9_demandRobot : Room := { frames := 6, cells := 1, slots := 6, locals := 100 }
theorem yn_X9_demandRobot : am_yn yX9_demandRobot 1 := ⟨⟨by decide +kernel, by decide +kernel⟩, by decide +kernel⟩
def g_X9_demandRobot (a1 : Int32) (M : am_M) : Option ((Unit ⊕ Nat) × am_M) := (if a1 < (0 : Int32) then (some ((.inr 1 : Unit ⊕ Nat), M)) else (if a1 < (am_g M 1 2) then (some ((.inl () : Unit ⊕ Nat), M)) else (some ((.inr 1 : Unit ⊕ Nat), M))))
set_option maxHeartbeats 4000000 in
set_option maxRecDepth 100000 in
theorem c_X9_demandRobot (l : Launch) (hls : l.stackTraces = false) (D : va_G) (E : Nat → ClassId) (z : Nat) (a1 : Int32) (M : am_M) (o : Unit ⊕ Nat) (M1 : am_M) (h : g_X9_demandRobot a1 M = some (o, M1)) : am_Xv l yX9_demandRobot cX9_demandRobot 2 none rm_X9_demandRobot D E z [.ref (z + 0), .int a1] M 1 6 o M1 := by
  unfold g_X9_demandRobot at h
  refine am_xof (own := RX9) (by decide +kernel) rfl (by exact Nat.le_of_ble_eq_true rfl) ?_
  intro p e s m args below meth c F hr ht0
  show am_W p l e rm_X9_demandRobot s m args below meth c _ 2 D E z 0 0 M 0 [(0, .ref (z + 0)), (1, .int a1)] []
  refine am_iload_n F 1 dX9_demandRobot_0 rfl rfl ?_
  refine am_if_lt F (tgt := 15) dX9_demandRobot_1 (by decide) (fun c2 => ?_) (fun c2 => ?_)
  · have h := (if_pos c2).symm.trans h
    exact am_throwW F ht0 hls xt_X9_395_407_399 ⟨Nat.le_of_ble_eq_true rfl, Nat.le_of_ble_eq_true rfl, Nat.le_of_ble_eq_true rfl, Nat.le_of_ble_eq_true rfl⟩ ⟨Nat.le_of_ble_eq_true rfl, Nat.le_of_ble_eq_true rfl⟩ h dX9_demandRobot_15 dX9_demandRobot_18 dX9_demandRobot_19 dX9_demandRobot_22 dX9_demandRobot_25
  · have h := (if_neg c2).symm.trans h
    refine am_iload_n F 1 dX9_demandRobot_4 rfl rfl ?_
    refine am_aload_n F 0 dX9_demandRobot_5 rfl rfl ?_
    refine gf_X9_12 F lyk_0 dX9_demandRobot_6 ?_
    refine gf_X9_53 F lyk_1 dX9_demandRobot_9 ?_
    refine am_icmp_lt F (tgt := 26) dX9_demandRobot_12 (by decide) (fun c1 => ?_) (fun c1 => ?_)
    · have h := (if_pos c1).symm.trans h
      exact am_xvret F hr ⟨Nat.le_of_ble_eq_true rfl, Nat.le_of_ble_eq_true rfl⟩ h dX9_demandRobot_26
    · have h := (if_neg c1).symm.trans h
      exact am_throwW F ht0 hls xt_X9_395_407_399 ⟨Nat.le_of_ble_eq_true rfl, Nat.le_of_ble_eq_true rfl, Nat.le_of_ble_eq_true rfl, Nat.le_of_ble_eq_true rfl⟩ ⟨Nat.le_of_ble_eq_true rfl, Nat.le_of_ble_eq_true rfl⟩ h dX9_demandRobot_15 dX9_demandRobot_18 dX9_demandRobot_19 dX9_demandRobot_22 dX9_demandRobot_25
/-! AisleScheduler.robot(II)I -/
abbrev rm_X9_robot : Room := { frames := 7, cells := 2, slots := 12, locals := 121 }
theorem yn_X9_robot : am_yn yX9_robot 2 := ⟨⟨by decide +kernel, by decide +kernel⟩, by decide +kernel⟩
def g_X9_robot (a1 : Int32) (a2 : Int32) (M : am_M) : Option ((Int32 ⊕ Nat) × am_M) := (am_bx (g_X9_demandRobot a1 M) (fun _ M2 => (am_b (g_X8_robotOf 1 a1 M2) (fun v6 M5 => (am_b (g_X2_placeAt (v6 + 1) (am_g M5 1 4) M5) (fun v9 M8 => (if a2 = (0 : Int32) then (some ((.inl (if v9 < (-1 : Int32) then (-1 : Int32) else v9) : Int32 ⊕ Nat), M8)) else (if a2 = (1 : Int32) then (some ((.inl (am_g M8 v6 2) : Int32 ⊕ Nat), M8)) else (if a2 = (2 : Int32) then (am_b (g_X2_ticksLeft (v6 + 1) (am_g M8 1 4) M8) (fun v15 M14 => (some ((.inl v15 : Int32 ⊕ Nat), M14)))) else (if a2 = (3 : Int32) then (am_b (g_X2_costLeft (v6 + 1) (am_g M8 1 4) M8) (fun v19 M18 => (some ((.inl v19 : Int32 ⊕ Nat), M18)))) else (if a2 = (4 : Int32) then (some ((.inl (am_g M8 v6 3) : Int32 ⊕ Nat), M8)) else (if a2 = (5 : Int32) then (if (0 : Int32) ≤ v9 then (some ((.inl (-1 : Int32) : Int32 ⊕ Nat), M8)) else (some ((.inl ((-1 : Int32) - v9) : Int32 ⊕ Nat), M8))) else (some ((.inr 2 : Int32 ⊕ Nat), M8))))))))))))))
set_option maxHeartbeats 4000000 in
set_option maxRecDepth 100000 in
theorem c_X9_robot (l : Launch) (hls : l.stackTraces = false) (D : va_G) (E : Nat → ClassId) (z : Nat) (a1 : Int32) (a2 : Int32) (M : am_M) (o : Int32 ⊕ Nat) (M1 : am_M) (h : g_X9_robot a1 a2 M = some (o, M1)) : am_Xi l yX9_robot cX9_robot 5 (some .int) rm_X9_robot D E z [.ref (z + 0), .int a1, .int a2] M 2 12 o M1 := by
  unfold g_X9_robot at h
  refine am_xof (own := RX9) (by decide +kernel) rfl (by exact Nat.le_of_ble_eq_true rfl) ?_
  intro p e s m args below meth c F hr ht0
  show am_W p l e rm_X9_robot s m args below meth c _ 5 D E z 0 0 M 0 [(0, .ref (z + 0)), (1, .int a1), (2, .int a2)] []
  refine am_aload_n F 0 dX9_robot_0 rfl rfl ?_
  refine am_iload_n F 1 dX9_robot_1 rfl rfl ?_
  obtain ⟨o3, M2, h1, h⟩ := am_bxE h
  refine am_xcallVv F ht0 [.int a1] lyk_0 (by decide) rfl cw_X9_93 (c_X9_demandRobot l hls D E z a1 M o3 M2 h1) yn_X9_demandRobot rfl ⟨Nat.le_of_ble_eq_true rfl, Nat.le_of_ble_eq_true rfl⟩ rfl rfl (Nat.le_of_ble_eq_true rfl) ⟨Nat.le_of_ble_eq_true rfl, Nat.le_of_ble_eq_true rfl⟩ ⟨Nat.le_of_ble_eq_true rfl, Nat.le_of_ble_eq_true rfl⟩ dX9_robot_2 rfl h (fun _ _ h => ?_)
  refine am_aload_n F 0 dX9_robot_5 rfl rfl ?_
  refine gf_X9_12 F lyk_0 dX9_robot_6 ?_
  refine am_iload_n F 1 dX9_robot_9 rfl rfl ?_
  obtain ⟨v6, M5, h4, h⟩ := am_bE h
  refine am_callVr F [.int a1] lyk_1 (by decide) rfl cw_X9_96 (c_X8_robotOf l D E z 1 lyk_1 a1 M2 v6 M5 h4) yn_X8_robotOf rfl ⟨Nat.le_of_ble_eq_true rfl, Nat.le_of_ble_eq_true rfl⟩ rfl rfl (Nat.le_of_ble_eq_true rfl) ⟨Nat.le_of_ble_eq_true rfl, Nat.le_of_ble_eq_true rfl⟩ dX9_robot_10 rfl ?_
  refine am_astore_n F [(3, .ref (z + v6)), (0, .ref (z + 0)), (1, .int a1), (2, .int a2)] dX9_robot_13 rfl (by decide) rfl ?_
  refine am_aload_n F 0 dX9_robot_14 rfl rfl ?_
  refine gf_X9_100 F (q_X8_robotOf 1 lyk_1 a1 M2 v6 M5 h4) dX9_robot_15 ?_
  refine am_aload_n F 1 dX9_robot_18 rfl rfl ?_
  refine gf_X9_12 F lyk_0 dX9_robot_19 ?_
  refine gf_X9_106 F lyk_1 dX9_robot_22 ?_
  obtain ⟨v9, M8, h7, h⟩ := am_bE h
  refine am_callVi F [.int (am_g M5 1 4)] (lyf_4_plan (q_X8_robotOf 1 lyk_1 a1 M2 v6 M5 h4)) (by decide) rfl cw_X9_109 (c_X2_placeAt l D E z (v6 + 1) (lyf_4_plan (q_X8_robotOf 1 lyk_1 a1 M2 v6 M5 h4)) (am_g M5 1 4) M5 v9 M8 h7) yn_X2_placeAt rfl ⟨Nat.le_of_ble_eq_true rfl, Nat.le_of_ble_eq_true rfl⟩ rfl rfl (Nat.le_of_ble_eq_true rfl) ⟨Nat.le_of_ble_eq_true rfl, Nat.le_of_ble_eq_true rfl⟩ dX9_robot_25 rfl ?_
  refine am_istore F [(4, .int v9), (3, .ref (z + v6)), (0, .ref (z + 0)), (1, .int a1), (2, .int a2)] dX9_robot_28 (by decide) rfl ?_
  refine am_iload_n F 4 dX9_robot_30 rfl rfl ?_
  by_cases c10 : a2 = (0 : Int32)
  · have h := (if_pos c10).symm.trans h
    refine am_tabIn F 0 (tgt := 68) dX9_robot_31 (by rw [c10]; decide) rfl rfl (by decide) ?_
    refine am_iload F 0 dX9_robot_68 rfl ?_
    refine am_iconst F (v := (-1 : Int32)) dX9_robot_70 (by decide) ?_
    refine am_max F dX9_robot_71 wd_801 (Nat.le_of_ble_eq_true rfl) (Nat.le_of_ble_eq_true rfl) (Nat.le_of_ble_eq_true rfl) (Nat.le_of_ble_eq_true rfl) ?_
    exact am_xiret F hr ⟨Nat.le_of_ble_eq_true rfl, Nat.le_of_ble_eq_true rfl⟩ h dX9_robot_74
  · have h := (if_neg c10).symm.trans h
    by_cases c11 : a2 = (1 : Int32)
    · have h := (if_pos c11).symm.trans h
      refine am_tabIn F 1 (tgt := 75) dX9_robot_31 (by rw [c11]; decide) rfl rfl (by decide) ?_
      refine am_aload_n F 1 dX9_robot_75 rfl rfl ?_
      refine gf_X9_120 F (q_X8_robotOf 1 lyk_1 a1 M2 v6 M5 h4) dX9_robot_76 ?_
      exact am_xiret F hr ⟨Nat.le_of_ble_eq_true rfl, Nat.le_of_ble_eq_true rfl⟩ h dX9_robot_79
    · have h := (if_neg c11).symm.trans h
      by_cases c12 : a2 = (2 : Int32)
      · have h := (if_pos c12).symm.trans h
        refine am_tabIn F 2 (tgt := 80) dX9_robot_31 (by rw [c12]; decide) rfl rfl (by decide) ?_
        refine am_aload_n F 1 dX9_robot_80 rfl rfl ?_
        refine gf_X9_100 F (q_X8_robotOf 1 lyk_1 a1 M2 v6 M5 h4) dX9_robot_81 ?_
        refine am_aload_n F 2 dX9_robot_84 rfl rfl ?_
        refine gf_X9_12 F lyk_0 dX9_robot_85 ?_
        refine gf_X9_106 F lyk_1 dX9_robot_88 ?_
        obtain ⟨v15, M14, h13, h⟩ := am_bE h
        refine am_callVi F [.int (am_g M8 1 4)] (lyf_4_plan (q_X8_robotOf 1 lyk_1 a1 M2 v6 M5 h4)) (by decide) rfl cw_X9_123 (c_X2_ticksLeft l D E z (v6 + 1) (lyf_4_plan (q_X8_robotOf 1 lyk_1 a1 M2 v6 M5 h4)) (am_g M8 1 4) M8 v15 M14 h13) yn_X2_ticksLeft rfl ⟨Nat.le_of_ble_eq_true rfl, Nat.le_of_ble_eq_true rfl⟩ rfl rfl (Nat.le_of_ble_eq_true rfl) ⟨Nat.le_of_ble_eq_true rfl, Nat.le_of_ble_eq_true rfl⟩ dX9_robot_91 rfl ?_
        exact am_xiret F hr ⟨Nat.le_of_ble_eq_true rfl, Nat.le_of_ble_eq_true rfl⟩ h dX9_robot_94
      · have h := (if_neg c12).symm.trans h
        by_cases c16 : a2 = (3 : Int32)
        · have h := (if_pos c16).symm.trans h
          refine am_tabIn F 3 (tgt := 95) dX9_robot_31 (by rw [c16]; decide) rfl rfl (by decide) ?_
          refine am_aload_n F 1 dX9_robot_95 rfl rfl ?_
          refine gf_X9_100 F (q_X8_robotOf 1 lyk_1 a1 M2 v6 M5 h4) dX9_robot_96 ?_
          refine am_aload_n F 2 dX9_robot_99 rfl rfl ?_
          refine gf_X9_12 F lyk_0 dX9_robot_100 ?_
          refine gf_X9_106 F lyk_1 dX9_robot_103 ?_
          obtain ⟨v19, M18, h17, h⟩ := am_bE h
          refine am_callVi F [.int (am_g M8 1 4)] (lyf_4_plan (q_X8_robotOf 1 lyk_1 a1 M2 v6 M5 h4)) (by decide) rfl cw_X9_126 (c_X2_costLeft l D E z (v6 + 1) (lyf_4_plan (q_X8_robotOf 1 lyk_1 a1 M2 v6 M5 h4)) (am_g M8 1 4) M8 v19 M18 h17) yn_X2_costLeft rfl ⟨Nat.le_of_ble_eq_true rfl, Nat.le_of_ble_eq_true rfl⟩ rfl rfl (Nat.le_of_ble_eq_true rfl) ⟨Nat.le_of_ble_eq_true rfl, Nat.le_of_ble_eq_true rfl⟩ dX9_robot_106 rfl ?_
          exact am_xiret F hr ⟨Nat.le_of_ble_eq_true rfl, Nat.le_of_ble_eq_true rfl⟩ h dX9_robot_109
        · have h := (if_neg c16).symm.trans h
          by_cases c20 : a2 = (4 : Int32)
          · have h := (if_pos c20).symm.trans h
            refine am_tabIn F 4 (tgt := 110) dX9_robot_31 (by rw [c20]; decide) rfl rfl (by decide) ?_
            refine am_aload_n F 1 dX9_robot_110 rfl rfl ?_
            refine gf_X9_129 F (q_X8_robotOf 1 lyk_1 a1 M2 v6 M5 h4) dX9_robot_111 ?_
            exact am_xiret F hr ⟨Nat.le_of_ble_eq_true rfl, Nat.le_of_ble_eq_true rfl⟩ h dX9_robot_114
          · have h := (if_neg c20).symm.trans h
            by_cases c21 : a2 = (5 : Int32)
            · have h := (if_pos c21).symm.trans h
              refine am_tabIn F 5 (tgt := 115) dX9_robot_31 (by rw [c21]; decide) rfl rfl (by decide) ?_
              refine am_iload F 0 dX9_robot_115 rfl ?_
              refine am_if_ge F (tgt := 127) dX9_robot_117 (by decide) (fun c22 => ?_) (fun c22 => ?_)
              · have h := (if_pos c22).symm.trans h
                refine am_iconst F (v := (-1 : Int32)) dX9_robot_127 (by decide) ?_
                exact am_xiret F hr ⟨Nat.le_of_ble_eq_true rfl, Nat.le_of_ble_eq_true rfl⟩ h dX9_robot_128
              · have h := (if_neg c22).symm.trans h
                refine am_iconst F (v := (-1 : Int32)) dX9_robot_120 (by decide) ?_
                refine am_iload F 0 dX9_robot_121 rfl ?_
                refine am_isub F dX9_robot_123 ?_
                refine am_goto F (tgt := 128) dX9_robot_124 (by decide) ?_
                exact am_xiret F hr ⟨Nat.le_of_ble_eq_true rfl, Nat.le_of_ble_eq_true rfl⟩ h dX9_robot_128
            · have h := (if_neg c21).symm.trans h
              have hsw := am_sw (x := a2) (lo := 0) (n := 6) (by decide) (by decide) (fun j hj => match j, hj with | 0, _ => c10 | 1, _ => c11 | 2, _ => c12 | 3, _ => c16 | 4, _ => c20 | 5, _ => c21)
              refine am_tabOut F (tgt := 129) dX9_robot_31 (hsw.imp_right (fun h9 => by omega)) (by decide) ?_
              exact am_throw F ht0 hls xt_X9_132_134_136 ⟨Nat.le_of_ble_eq_true rfl, Nat.le_of_ble_eq_true rfl, Nat.le_of_ble_eq_true rfl, Nat.le_of_ble_eq_true rfl⟩ ⟨Nat.le_of_ble_eq_true rfl, Nat.le_of_ble_eq_true rfl⟩ h dX9_robot_129 dX9_robot_132 dX9_robot_133 dX9_robot_135 dX9_robot_138
/-! AisleScheduler.count(I)I -/
abbrev rm_X9_count : Room := { frames := 6, cells := 1, slots := 6, locals := 100 }
theorem yn_X9_count : am_yn yX9_count 1 := ⟨⟨by decide +kernel, by decide +kernel⟩, by decide +kernel⟩
def g_X9_count (a1 : Int32) (M : am_M) : Option ((Int32 ⊕ Nat) × am_M) := (if a1 = (0 : Int32) then (some ((.inl (am_g M 1 2) : Int32 ⊕ Nat), M)) else (if a1 = (1 : Int32) then (some ((.inl (am_g M (1 + 1) 3) : Int32 ⊕ Nat), M)) else (if a1 = (2 : Int32) then (some ((.inl (am_g M 1 3) : Int32 ⊕ Nat), M)) else (if a1 = (3 : Int32) then (am_b (g_X1_countOf (1 + 1) (1 : Int32) M) (fun v7 M6 => (some ((.inl v7 : Int32 ⊕ Nat), M6)))) else (if a1 = (4 : Int32) then (am_b (g_X1_countOf (1 + 1) (2 : Int32) M) (fun v11 M10 => (some ((.inl v11 : Int32 ⊕ Nat), M10)))) else (if a1 = (5 : Int32) then (some ((.inl (am_g M 1 4) : Int32 ⊕ Nat), M)) else (some ((.inr 2 : Int32 ⊕ Nat), M))))))))
set_option maxHeartbeats 4000000 in
set_option maxRecDepth 100000 in
theorem c_X9_count (l : Launch) (hls : l.stackTraces = false) (D : va_G) (E : Nat → ClassId) (z : Nat) (a1 : Int32) (M : am_M) (o : Int32 ⊕ Nat) (M1 : am_M) (h : g_X9_count a1 M = some (o, M1)) : am_Xi l yX9_count cX9_count 2 (some .int) rm_X9_count D E z [.ref (z + 0), .int a1] M 1 6 o M1 := by
  unfold g_X9_count at h
  refine am_xof (own := RX9) (by decide +kernel) rfl (by exact Nat.le_of_ble_eq_true rfl) ?_
  intro p e s m args below meth c F hr ht0
  show am_W p l e rm_X9_count s m args below meth c _ 2 D E z 0 0 M 0 [(0, .ref (z + 0)), (1, .int a1)] []
  refine am_iload_n F 1 dX9_count_0 rfl rfl ?_
  by_cases c1 : a1 = (0 : Int32)
  · have h := (if_pos c1).symm.trans h
    refine am_tabIn F 0 (tgt := 40) dX9_count_1 (by rw [c1]; decide) rfl rfl (by decide) ?_
    refine am_aload_n F 0 dX9_count_40 rfl rfl ?_
    refine gf_X9_12 F lyk_0 dX9_count_41 ?_
    refine gf_X9_53 F lyk_1 dX9_count_44 ?_
    exact am_xiret F hr ⟨Nat.le_of_ble_eq_true rfl, Nat.le_of_ble_eq_true rfl⟩ h dX9_count_47
  · have h := (if_neg c1).symm.trans h
    by_cases c2 : a1 = (1 : Int32)
    · have h := (if_pos c2).symm.trans h
      refine am_tabIn F 1 (tgt := 48) dX9_count_1 (by rw [c2]; decide) rfl rfl (by decide) ?_
      refine am_aload_n F 0 dX9_count_48 rfl rfl ?_
      refine gf_X9_12 F lyk_0 dX9_count_49 ?_
      refine gf_X9_59 F lyk_1 dX9_count_52 ?_
      refine gf_X9_87 F (lyf_8_floor lyk_1) dX9_count_55 ?_
      exact am_xiret F hr ⟨Nat.le_of_ble_eq_true rfl, Nat.le_of_ble_eq_true rfl⟩ h dX9_count_58
    · have h := (if_neg c2).symm.trans h
      by_cases c3 : a1 = (2 : Int32)
      · have h := (if_pos c3).symm.trans h
        refine am_tabIn F 2 (tgt := 59) dX9_count_1 (by rw [c3]; decide) rfl rfl (by decide) ?_
        refine am_aload_n F 0 dX9_count_59 rfl rfl ?_
        refine gf_X9_12 F lyk_0 dX9_count_60 ?_
        refine gf_X9_139 F lyk_1 dX9_count_63 ?_
        exact am_xiret F hr ⟨Nat.le_of_ble_eq_true rfl, Nat.le_of_ble_eq_true rfl⟩ h dX9_count_66
      · have h := (if_neg c3).symm.trans h
        by_cases c4 : a1 = (3 : Int32)
        · have h := (if_pos c4).symm.trans h
          refine am_tabIn F 3 (tgt := 67) dX9_count_1 (by rw [c4]; decide) rfl rfl (by decide) ?_
          refine am_aload_n F 0 dX9_count_67 rfl rfl ?_
          refine gf_X9_12 F lyk_0 dX9_count_68 ?_
          refine gf_X9_59 F lyk_1 dX9_count_71 ?_
          refine am_iconst F (v := (1 : Int32)) dX9_count_74 (by decide) ?_
          obtain ⟨v7, M6, h5, h⟩ := am_bE h
          refine am_callVi F [.int (1 : Int32)] (lyf_8_floor lyk_1) (by decide) rfl cw_X9_142 (c_X1_countOf l D E z (1 + 1) (lyf_8_floor lyk_1) (1 : Int32) M v7 M6 h5) yn_X1_countOf rfl ⟨Nat.le_of_ble_eq_true rfl, Nat.le_of_ble_eq_true rfl⟩ rfl rfl (Nat.le_of_ble_eq_true rfl) ⟨Nat.le_of_ble_eq_true rfl, Nat.le_of_ble_eq_true rfl⟩ dX9_count_75 rfl ?_
          exact am_xiret F hr ⟨Nat.le_of_ble_eq_true rfl, Nat.le_of_ble_eq_true rfl⟩ h dX9_count_78
        · have h := (if_neg c4).symm.trans h
          by_cases c8 : a1 = (4 : Int32)
          · have h := (if_pos c8).symm.trans h
            refine am_tabIn F 4 (tgt := 79) dX9_count_1 (by rw [c8]; decide) rfl rfl (by decide) ?_
            refine am_aload_n F 0 dX9_count_79 rfl rfl ?_
            refine gf_X9_12 F lyk_0 dX9_count_80 ?_
            refine gf_X9_59 F lyk_1 dX9_count_83 ?_
            refine am_iconst F (v := (2 : Int32)) dX9_count_86 (by decide) ?_
            obtain ⟨v11, M10, h9, h⟩ := am_bE h
            refine am_callVi F [.int (2 : Int32)] (lyf_8_floor lyk_1) (by decide) rfl cw_X9_142 (c_X1_countOf l D E z (1 + 1) (lyf_8_floor lyk_1) (2 : Int32) M v11 M10 h9) yn_X1_countOf rfl ⟨Nat.le_of_ble_eq_true rfl, Nat.le_of_ble_eq_true rfl⟩ rfl rfl (Nat.le_of_ble_eq_true rfl) ⟨Nat.le_of_ble_eq_true rfl, Nat.le_of_ble_eq_true rfl⟩ dX9_count_87 rfl ?_
            exact am_xiret F hr ⟨Nat.le_of_ble_eq_true rfl, Nat.le_of_ble_eq_true rfl⟩ h dX9_count_90
          · have h := (if_neg c8).symm.trans h
            by_cases c12 : a1 = (5 : Int32)
            · have h := (if_pos c12).symm.trans h
              refine am_tabIn F 5 (tgt := 91) dX9_count_1 (by rw [c12]; decide) rfl rfl (by decide) ?_
              refine am_aload_n F 0 dX9_count_91 rfl rfl ?_
              refine gf_X9_12 F lyk_0 dX9_count_92 ?_
              refine gf_X9_106 F lyk_1 dX9_count_95 ?_
              exact am_xiret F hr ⟨Nat.le_of_ble_eq_true rfl, Nat.le_of_ble_eq_true rfl⟩ h dX9_count_98
            · have h := (if_neg c12).symm.trans h
              have hsw := am_sw (x := a1) (lo := 0) (n := 6) (by decide) (by decide) (fun j hj => match j, hj with | 0, _ => c1 | 1, _ => c2 | 2, _ => c3 | 3, _ => c4 | 4, _ => c8 | 5, _ => c12)
              refine am_tabOut F (tgt := 99) dX9_count_1 (hsw.imp_right (fun h9 => by omega)) (by decide) ?_
              exact am_throw F ht0 hls xt_X9_132_134_136 ⟨Nat.le_of_ble_eq_true rfl, Nat.le_of_ble_eq_true rfl, Nat.le_of_ble_eq_true rfl, Nat.le_of_ble_eq_true rfl⟩ ⟨Nat.le_of_ble_eq_true rfl, Nat.le_of_ble_eq_true rfl⟩ h dX9_count_99 dX9_count_102 dX9_count_103 dX9_count_105 dX9_count_108
/-! AisleScheduler.region(I)I -/
abbrev rm_X9_region : Room := { frames := 7, cells := 1, slots := 6, locals := 138 }
theorem yn_X9_region : am_yn yX9_region 1 := ⟨⟨by decide +kernel, by decide +kernel⟩, by decide +kernel⟩
def g_X9_region (a1 : Int32) (M : am_M) : Option ((Int32 ⊕ Nat) × am_M) := (am_bx (g_X9_demandCell a1 M) (fun _ M2 => (am_b (g_X1_reachedFrom (1 + 1) a1 M2) (fun v6 M5 => (some ((.inl v6 : Int32 ⊕ Nat), M5))))))
set_option maxHeartbeats 4000000 in
set_option maxRecDepth 100000 in
theorem c_X9_region (l : Launch) (hls : l.stackTraces = false) (D : va_G) (E : Nat → ClassId) (z : Nat) (a1 : Int32) (M : am_M) (o : Int32 ⊕ Nat) (M1 : am_M) (h : g_X9_region a1 M = some (o, M1)) : am_Xi l yX9_region cX9_region 2 (some .int) rm_X9_region D E z [.ref (z + 0), .int a1] M 1 6 o M1 := by
  unfold g_X9_region at h
  refine am_xof (own := RX9) (by decide +kernel) rfl (by exact Nat.le_of_ble_eq_true rfl) ?_
  intro p e s m args below meth c F hr ht0
  show am_W p l e rm_X9_region s m args below meth c _ 2 D E z 0 0 M 0 [(0, .ref (z + 0)), (1, .int a1)] []
  refine am_iload_n F 1 dX9_region_0 rfl rfl ?_
  obtain ⟨o3, M2, h1, h⟩ := am_bxE h
  refine am_xcallSv F ht0 [.int a1] cw_X9_81 rfl (c_X9_demandCell l hls D E z a1 M o3 M2 h1) yn_X9_demandCell rfl ⟨Nat.le_of_ble_eq_true rfl, Nat.le_of_ble_eq_true rfl⟩ rfl rfl (Nat.le_of_ble_eq_true rfl) ⟨Nat.le_of_ble_eq_true rfl, Nat.le_of_ble_eq_true rfl⟩ ⟨Nat.le_of_ble_eq_true rfl, Nat.le_of_ble_eq_true rfl⟩ dX9_region_1 rfl h (fun _ _ h => ?_)
  refine am_aload_n F 0 dX9_region_4 rfl rfl ?_
  refine gf_X9_12 F lyk_0 dX9_region_5 ?_
  refine gf_X9_59 F lyk_1 dX9_region_8 ?_
  refine am_iload_n F 1 dX9_region_11 rfl rfl ?_
  obtain ⟨v6, M5, h4, h⟩ := am_bE h
  refine am_callVi F [.int a1] (lyf_8_floor lyk_1) (by decide) rfl cw_X9_145 (c_X1_reachedFrom l D E z (1 + 1) (lyf_8_floor lyk_1) a1 M2 v6 M5 h4) yn_X1_reachedFrom rfl ⟨Nat.le_of_ble_eq_true rfl, Nat.le_of_ble_eq_true rfl⟩ rfl rfl (Nat.le_of_ble_eq_true rfl) ⟨Nat.le_of_ble_eq_true rfl, Nat.le_of_ble_eq_true rfl⟩ dX9_region_12 rfl ?_
  exact am_xiret F hr ⟨Nat.le_of_ble_eq_true rfl, Nat.le_of_ble_eq_true rfl⟩ h dX9_region_15
/-! AisleScheduler.ticksBetween(II)I -/
abbrev rm_X9_ticksBetween : Room := { frames := 7, cells := 3, slots := 18, locals := 137 }
theorem yn_X9_ticksBetween : am_yn yX9_ticksBetween 2 := ⟨⟨by decide +kernel, by decide +kernel⟩, by decide +kernel⟩
def g_X9_ticksBetween (a1 : Int32) (a2 : Int32) (M : am_M) : Option ((Int32 ⊕ Nat) × am_M) := (am_bx (g_X9_demandCell a1 M) (fun _ M2 => (am_bx (g_X9_demandCell a2 M2) (fun _ M5 => (am_b (g_X1_distance (1 + 1) a1 a2 M5) (fun v9 M8 => (if v9 < (1000000 : Int32) then (some ((.inl v9 : Int32 ⊕ Nat), M8)) else (some ((.inr 4 : Int32 ⊕ Nat), M8)))))))))
set_option maxHeartbeats 4000000 in
set_option maxRecDepth 100000 in
theorem c_X9_ticksBetween (l : Launch) (hls : l.stackTraces = false) (D : va_G) (E : Nat → ClassId) (z : Nat) (a1 : Int32) (a2 : Int32) (M : am_M) (o : Int32 ⊕ Nat) (M1 : am_M) (h : g_X9_ticksBetween a1 a2 M = some (o, M1)) : am_Xi l yX9_ticksBetween cX9_ticksBetween 4 (some .int) rm_X9_ticksBetween D E z [.ref (z + 0), .int a1, .int a2] M 3 18 o M1 := by
  unfold g_X9_ticksBetween at h
  refine am_xof (own := RX9) (by decide +kernel) rfl (by exact Nat.le_of_ble_eq_true rfl) ?_
  intro p e s m args below meth c F hr ht0
  show am_W p l e rm_X9_ticksBetween s m args below meth c _ 4 D E z 0 0 M 0 [(0, .ref (z + 0)), (1, .int a1), (2, .int a2)] []
  refine am_iload_n F 1 dX9_ticksBetween_0 rfl rfl ?_
  obtain ⟨o3, M2, h1, h⟩ := am_bxE h
  refine am_xcallSv F ht0 [.int a1] cw_X9_81 rfl (c_X9_demandCell l hls D E z a1 M o3 M2 h1) yn_X9_demandCell rfl ⟨Nat.le_of_ble_eq_true rfl, Nat.le_of_ble_eq_true rfl⟩ rfl rfl (Nat.le_of_ble_eq_true rfl) ⟨Nat.le_of_ble_eq_true rfl, Nat.le_of_ble_eq_true rfl⟩ ⟨Nat.le_of_ble_eq_true rfl, Nat.le_of_ble_eq_true rfl⟩ dX9_ticksBetween_1 rfl h (fun _ _ h => ?_)
  refine am_iload_n F 2 dX9_ticksBetween_4 rfl rfl ?_
  obtain ⟨o6, M5, h4, h⟩ := am_bxE h
  refine am_xcallSv F ht0 [.int a2] cw_X9_81 rfl (c_X9_demandCell l hls D E z a2 M2 o6 M5 h4) yn_X9_demandCell rfl ⟨Nat.le_of_ble_eq_true rfl, Nat.le_of_ble_eq_true rfl⟩ rfl rfl (Nat.le_of_ble_eq_true rfl) ⟨Nat.le_of_ble_eq_true rfl, Nat.le_of_ble_eq_true rfl⟩ ⟨Nat.le_of_ble_eq_true rfl, Nat.le_of_ble_eq_true rfl⟩ dX9_ticksBetween_5 rfl h (fun _ _ h => ?_)
  refine am_aload_n F 0 dX9_ticksBetween_8 rfl rfl ?_
  refine gf_X9_12 F lyk_0 dX9_ticksBetween_9 ?_
  refine gf_X9_59 F lyk_1 dX9_ticksBetween_12 ?_
  refine am_iload_n F 1 dX9_ticksBetween_15 rfl rfl ?_
  refine am_iload_n F 2 dX9_ticksBetween_16 rfl rfl ?_
  obtain ⟨v9, M8, h7, h⟩ := am_bE h
  refine am_callVi F [.int a1, .int a2] (lyf_8_floor lyk_1) (by decide) rfl cw_X9_148 (c_X1_distance l D E z (1 + 1) (lyf_8_floor lyk_1) a1 a2 M5 v9 M8 h7) yn_X1_distance rfl ⟨Nat.le_of_ble_eq_true rfl, Nat.le_of_ble_eq_true rfl⟩ rfl rfl (Nat.le_of_ble_eq_true rfl) ⟨Nat.le_of_ble_eq_true rfl, Nat.le_of_ble_eq_true rfl⟩ dX9_ticksBetween_17 rfl ?_
  refine am_istore_n F [(3, .int v9), (0, .ref (z + 0)), (1, .int a1), (2, .int a2)] dX9_ticksBetween_20 rfl (by decide) rfl ?_
  refine am_iload_n F 0 dX9_ticksBetween_21 rfl rfl ?_
  refine am_ldc F (v := (1000000 : Int32)) dX9_ticksBetween_22 wd_856 ?_
  refine am_icmp_lt F (tgt := 37) dX9_ticksBetween_24 (by decide) (fun c10 => ?_) (fun c10 => ?_)
  · have h := (if_pos c10).symm.trans h
    refine am_iload_n F 0 dX9_ticksBetween_37 rfl rfl ?_
    exact am_xiret F hr ⟨Nat.le_of_ble_eq_true rfl, Nat.le_of_ble_eq_true rfl⟩ h dX9_ticksBetween_38
  · have h := (if_neg c10).symm.trans h
    exact am_throw4 F ht0 hls xt_X9_152_154_156 ⟨Nat.le_of_ble_eq_true rfl, Nat.le_of_ble_eq_true rfl, Nat.le_of_ble_eq_true rfl, Nat.le_of_ble_eq_true rfl⟩ ⟨Nat.le_of_ble_eq_true rfl, Nat.le_of_ble_eq_true rfl⟩ h dX9_ticksBetween_27 dX9_ticksBetween_30 dX9_ticksBetween_31 dX9_ticksBetween_33 dX9_ticksBetween_36
/-! AisleScheduler.demandOutsideLift(I)V -/
abbrev rm_X9_demandOutsideLift : Room := { frames := 6, cells := 1, slots := 6, locals := 100 }
theorem yn_X9_demandOutsideLift : am_yn yX9_demandOutsideLift 1 := ⟨⟨by decide +kernel, by decide +kernel⟩, by decide +kernel⟩
def g_X9_demandOutsideLift (a1 : Int32) (M : am_M) : Option ((Unit ⊕ Nat) × am_M) := (am_b (g_X8_isInLift 1 a1 M) (fun v3 M2 => (if v3 = (0 : Int32) then (some ((.inl () : Unit ⊕ Nat), M2)) else (some ((.inr 3 : Unit ⊕ Nat), M2)))))
set_option maxHeartbeats 4000000 in
set_option maxRecDepth 100000 in
theorem c_X9_demandOutsideLift (l : Launch) (hls : l.stackTraces = false) (D : va_G) (E : Nat → ClassId) (z : Nat) (a1 : Int32) (M : am_M) (o : Unit ⊕ Nat) (M1 : am_M) (h : g_X9_demandOutsideLift a1 M = some (o, M1)) : am_Xv l yX9_demandOutsideLift cX9_demandOutsideLift 2 none rm_X9_demandOutsideLift D E z [.ref (z + 0), .int a1] M 1 6 o M1 := by
  unfold g_X9_demandOutsideLift at h
  refine am_xof (own := RX9) (by decide +kernel) rfl (by exact Nat.le_of_ble_eq_true rfl) ?_
  intro p e s m args below meth c F hr ht0
  show am_W p l e rm_X9_demandOutsideLift s m args below meth c _ 2 D E z 0 0 M 0 [(0, .ref (z + 0)), (1, .int a1)] []
  refine am_aload_n F 0 dX9_demandOutsideLift_0 rfl rfl ?_
  refine gf_X9_12 F lyk_0 dX9_demandOutsideLift_1 ?_
  refine am_iload_n F 1 dX9_demandOutsideLift_4 rfl rfl ?_
  obtain ⟨v3, M2, h1, h⟩ := am_bE h
  refine am_callVi F [.int a1] lyk_1 (by decide) rfl cw_X9_209 (c_X8_isInLift l D E z 1 lyk_1 a1 M v3 M2 h1) yn_X8_isInLift rfl ⟨Nat.le_of_ble_eq_true rfl, Nat.le_of_ble_eq_true rfl⟩ rfl rfl (Nat.le_of_ble_eq_true rfl) ⟨Nat.le_of_ble_eq_true rfl, Nat.le_of_ble_eq_true rfl⟩ dX9_demandOutsideLift_5 rfl ?_
  refine am_if_eq F (tgt := 22) dX9_demandOutsideLift_8 (by decide) (fun c4 => ?_) (fun c4 => ?_)
  · have h := (if_pos c4).symm.trans h
    exact am_xvret F hr ⟨Nat.le_of_ble_eq_true rfl, Nat.le_of_ble_eq_true rfl⟩ h dX9_demandOutsideLift_22
  · have h := (if_neg c4).symm.trans h
    exact am_throwW F ht0 hls xt_X9_218_417_222 ⟨Nat.le_of_ble_eq_true rfl, Nat.le_of_ble_eq_true rfl, Nat.le_of_ble_eq_true rfl, Nat.le_of_ble_eq_true rfl⟩ ⟨Nat.le_of_ble_eq_true rfl, Nat.le_of_ble_eq_true rfl⟩ h dX9_demandOutsideLift_11 dX9_demandOutsideLift_14 dX9_demandOutsideLift_15 dX9_demandOutsideLift_18 dX9_demandOutsideLift_21
/-! AisleScheduler.demandFinalRoute(II)V -/
abbrev rm_X9_demandFinalRoute : Room := { frames := 7, cells := 4, slots := 24, locals := 155 }
theorem yn_X9_demandFinalRoute : am_yn yX9_demandFinalRoute 2 := ⟨⟨by decide +kernel, by decide +kernel⟩, by decide +kernel⟩
def g_X9_demandFinalRoute (a1 : Int32) (a2 : Int32) (M : am_M) : Option ((Unit ⊕ Nat) × am_M) := (am_bx (g_X9_demandRobot a1 M) (fun _ M2 => (am_bx (g_X9_demandCell a2 M2) (fun _ M5 => (am_bx (g_X9_demandOutsideLift a1 M5) (fun _ M8 => (am_b (g_X3_findFinal a1 a2 M8) (fun v12 M11 => (if v12 = (0 : Int32) then (some ((.inr 4 : Unit ⊕ Nat), M11)) else (some ((.inl () : Unit ⊕ Nat), M11)))))))))))
set_option maxHeartbeats 4000000 in
set_option maxRecDepth 100000 in
theorem c_X9_demandFinalRoute (l : Launch) (hls : l.stackTraces = false) (D : va_G) (E : Nat → ClassId) (z : Nat) (a1 : Int32) (a2 : Int32) (M : am_M) (o : Unit ⊕ Nat) (M1 : am_M) (h : g_X9_demandFinalRoute a1 a2 M = some (o, M1)) : am_Xv l yX9_demandFinalRoute cX9_demandFinalRoute 3 none rm_X9_demandFinalRoute D E z [.ref (z + 0), .int a1, .int a2] M 4 24 o M1 := by
  unfold g_X9_demandFinalRoute at h
  refine am_xof (own := RX9) (by decide +kernel) rfl (by exact Nat.le_of_ble_eq_true rfl) ?_
  intro p e s m args below meth c F hr ht0
  show am_W p l e rm_X9_demandFinalRoute s m args below meth c _ 3 D E z 0 0 M 0 [(0, .ref (z + 0)), (1, .int a1), (2, .int a2)] []
  refine am_aload_n F 0 dX9_demandFinalRoute_0 rfl rfl ?_
  refine am_iload_n F 1 dX9_demandFinalRoute_1 rfl rfl ?_
  obtain ⟨o3, M2, h1, h⟩ := am_bxE h
  refine am_xcallVv F ht0 [.int a1] lyk_0 (by decide) rfl cw_X9_93 (c_X9_demandRobot l hls D E z a1 M o3 M2 h1) yn_X9_demandRobot rfl ⟨Nat.le_of_ble_eq_true rfl, Nat.le_of_ble_eq_true rfl⟩ rfl rfl (Nat.le_of_ble_eq_true rfl) ⟨Nat.le_of_ble_eq_true rfl, Nat.le_of_ble_eq_true rfl⟩ ⟨Nat.le_of_ble_eq_true rfl, Nat.le_of_ble_eq_true rfl⟩ dX9_demandFinalRoute_2 rfl h (fun _ _ h => ?_)
  refine am_iload_n F 2 dX9_demandFinalRoute_5 rfl rfl ?_
  obtain ⟨o6, M5, h4, h⟩ := am_bxE h
  refine am_xcallSv F ht0 [.int a2] cw_X9_81 rfl (c_X9_demandCell l hls D E z a2 M2 o6 M5 h4) yn_X9_demandCell rfl ⟨Nat.le_of_ble_eq_true rfl, Nat.le_of_ble_eq_true rfl⟩ rfl rfl (Nat.le_of_ble_eq_true rfl) ⟨Nat.le_of_ble_eq_true rfl, Nat.le_of_ble_eq_true rfl⟩ ⟨Nat.le_of_ble_eq_true rfl, Nat.le_of_ble_eq_true rfl⟩ dX9_demandFinalRoute_6 rfl h (fun _ _ h => ?_)
  refine am_aload_n F 0 dX9_demandFinalRoute_9 rfl rfl ?_
  refine am_iload_n F 1 dX9_demandFinalRoute_10 rfl rfl ?_
  obtain ⟨o9, M8, h7, h⟩ := am_bxE h
  refine am_xcallVv F ht0 [.int a1] lyk_0 (by decide) rfl cw_X9_193 (c_X9_demandOutsideLift l hls D E z a1 M5 o9 M8 h7) yn_X9_demandOutsideLift rfl ⟨Nat.le_of_ble_eq_true rfl, Nat.le_of_ble_eq_true rfl⟩ rfl rfl (Nat.le_of_ble_eq_true rfl) ⟨Nat.le_of_ble_eq_true rfl, Nat.le_of_ble_eq_true rfl⟩ ⟨Nat.le_of_ble_eq_true rfl, Nat.le_of_ble_eq_true rfl⟩ dX9_demandFinalRoute_11 rfl h (fun _ _ h => ?_)
  refine am_aload_n F 0 dX9_demandFinalRoute_14 rfl rfl ?_
  refine gf_X9_27 F lyk_0 dX9_demandFinalRoute_15 ?_
  refine am_iload_n F 1 dX9_demandFinalRoute_18 rfl rfl ?_
  refine am_iload_n F 2 dX9_demandFinalRoute_19 rfl rfl ?_
  obtain ⟨v12, M11, h10, h⟩ := am_bE h
  refine am_callVi F [.int a1, .int a2] lyk_157 (by decide) rfl cw_X9_231 (c_X3_findFinal l D E z a1 a2 M8 v12 M11 h10) yn_X3_findFinal rfl ⟨Nat.le_of_ble_eq_true rfl, Nat.le_of_ble_eq_true rfl⟩ rfl rfl (Nat.le_of_ble_eq_true rfl) ⟨Nat.le_of_ble_eq_true rfl, Nat.le_of_ble_eq_true rfl⟩ dX9_demandFinalRoute_20 rfl ?_
  refine am_if_ne F (tgt := 37) dX9_demandFinalRoute_23 (by decide) (fun c13 => ?_) (fun c13 => ?_)
  · have h := (if_neg c13).symm.trans h
    exact am_xvret F hr ⟨Nat.le_of_ble_eq_true rfl, Nat.le_of_ble_eq_true rfl⟩ h dX9_demandFinalRoute_37
  · have h := (if_pos c13).symm.trans h
    exact am_throw4W F ht0 hls xt_X9_152_419_156 ⟨Nat.le_of_ble_eq_true rfl, Nat.le_of_ble_eq_true rfl, Nat.le_of_ble_eq_true rfl, Nat.le_of_ble_eq_true rfl⟩ ⟨Nat.le_of_ble_eq_true rfl, Nat.le_of_ble_eq_true rfl⟩ h dX9_demandFinalRoute_26 dX9_demandFinalRoute_29 dX9_demandFinalRoute_30 dX9_demandFinalRoute_33 dX9_demandFinalRoute_36
/-! AisleScheduler.plan(II)I -/
abbrev rm_X9_plan : Room := { frames := 8, cells := 5, slots := 30, locals := 177 }
theorem yn_X9_plan : am_yn yX9_plan 2 := ⟨⟨by decide +kernel, by decide +kernel⟩, by decide +kernel⟩
def g_X9_plan (a1 : Int32) (a2 : Int32) (M : am_M) : Option ((Int32 ⊕ Nat) × am_M) := (am_bx (g_X9_demandFinalRoute a1 a2 M) (fun _ M2 => (am_b (g_X3_isAffordable a1 M2) (fun v6 M5 => (if v6 = (0 : Int32) then (some ((.inr 5 : Int32 ⊕ Nat), M5)) else (am_b (g_X3_adopt a1 (-1 : Int32) M5) (fun _ M8 => (some ((.inl (am_g M8 158 3) : Int32 ⊕ Nat), M8)))))))))
set_option maxHeartbeats 4000000 in
set_option maxRecDepth 100000 in
theorem c_X9_plan (l : Launch) (hls : l.stackTraces = false) (D : va_G) (E : Nat → ClassId) (z : Nat) (a1 : Int32) (a2 : Int32) (M : am_M) (o : Int32 ⊕ Nat) (M1 : am_M) (h : g_X9_plan a1 a2 M = some (o, M1)) : am_Xi l yX9_plan cX9_plan 3 (some .int) rm_X9_plan D E z [.ref (z + 0), .int a1, .int a2] M 5 30 o M1 := by
  unfold g_X9_plan at h
  refine am_xof (own := RX9) (by decide +kernel) rfl (by exact Nat.le_of_ble_eq_true rfl) ?_
  intro p e s m args below meth c F hr ht0
  show am_W p l e rm_X9_plan s m args below meth c _ 3 D E z 0 0 M 0 [(0, .ref (z + 0)), (1, .int a1), (2, .int a2)] []
  refine am_aload_n F 0 dX9_plan_0 rfl rfl ?_
  refine am_iload_n F 1 dX9_plan_1 rfl rfl ?_
  refine am_iload_n F 2 dX9_plan_2 rfl rfl ?_
  obtain ⟨o3, M2, h1, h⟩ := am_bxE h
  refine am_xcallVv F ht0 [.int a1, .int a2] lyk_0 (by decide) rfl cw_X9_157 (c_X9_demandFinalRoute l hls D E z a1 a2 M o3 M2 h1) yn_X9_demandFinalRoute rfl ⟨Nat.le_of_ble_eq_true rfl, Nat.le_of_ble_eq_true rfl⟩ rfl rfl (Nat.le_of_ble_eq_true rfl) ⟨Nat.le_of_ble_eq_true rfl, Nat.le_of_ble_eq_true rfl⟩ ⟨Nat.le_of_ble_eq_true rfl, Nat.le_of_ble_eq_true rfl⟩ dX9_plan_3 rfl h (fun _ _ h => ?_)
  refine am_aload_n F 0 dX9_plan_6 rfl rfl ?_
  refine gf_X9_27 F lyk_0 dX9_plan_7 ?_
  refine am_iload_n F 1 dX9_plan_10 rfl rfl ?_
  obtain ⟨v6, M5, h4, h⟩ := am_bE h
  refine am_callVi F [.int a1] lyk_157 (by decide) rfl cw_X9_161 (c_X3_isAffordable l D E z a1 M2 v6 M5 h4) yn_X3_isAffordable rfl ⟨Nat.le_of_ble_eq_true rfl, Nat.le_of_ble_eq_true rfl⟩ rfl rfl (Nat.le_of_ble_eq_true rfl) ⟨Nat.le_of_ble_eq_true rfl, Nat.le_of_ble_eq_true rfl⟩ dX9_plan_11 rfl ?_
  refine am_if_ne F (tgt := 27) dX9_plan_14 (by decide) (fun c9 => ?_) (fun c9 => ?_)
  · have h := (if_neg c9).symm.trans h
    refine am_aload_n F 0 dX9_plan_27 rfl rfl ?_
    refine gf_X9_27 F lyk_0 dX9_plan_28 ?_
    refine am_iload_n F 1 dX9_plan_31 rfl rfl ?_
    refine am_iconst F (v := (-1 : Int32)) dX9_plan_32 (by decide) ?_
    obtain ⟨_, M8, h7, h⟩ := am_bE h
    refine am_callVv F [.int a1, .int (-1 : Int32)] lyk_157 (by decide) rfl cw_X9_170 (c_X3_adopt l D E z a1 (-1 : Int32) M5 M8 h7) yn_X3_adopt rfl ⟨Nat.le_of_ble_eq_true rfl, Nat.le_of_ble_eq_true rfl⟩ rfl rfl (Nat.le_of_ble_eq_true rfl) ⟨Nat.le_of_ble_eq_true rfl, Nat.le_of_ble_eq_true rfl⟩ dX9_plan_33 rfl ?_
    refine am_aload_n F 0 dX9_plan_36 rfl rfl ?_
    refine gf_X9_27 F lyk_0 dX9_plan_37 ?_
    refine gf_X9_173 F lyk_157 dX9_plan_40 ?_
    refine gf_X9_176 F lyk_158 dX9_plan_43 ?_
    exact am_xiret F hr ⟨Nat.le_of_ble_eq_true rfl, Nat.le_of_ble_eq_true rfl⟩ h dX9_plan_46
  · have h := (if_pos c9).symm.trans h
    exact am_throw F ht0 hls xt_X9_165_167_169 ⟨Nat.le_of_ble_eq_true rfl, Nat.le_of_ble_eq_true rfl, Nat.le_of_ble_eq_true rfl, Nat.le_of_ble_eq_true rfl⟩ ⟨Nat.le_of_ble_eq_true rfl, Nat.le_of_ble_eq_true rfl⟩ h dX9_plan_17 dX9_plan_20 dX9_plan_21 dX9_plan_23 dX9_plan_26
/-! AisleScheduler.arrival(II)I -/
abbrev rm_X9_arrival : Room := { frames := 8, cells := 4, slots := 24, locals := 177 }
theorem yn_X9_arrival : am_yn yX9_arrival 2 := ⟨⟨by decide +kernel, by decide +kernel⟩, by decide +kernel⟩
def g_X9_arrival (a1 : Int32) (a2 : Int32) (M : am_M) : Option ((Int32 ⊕ Nat) × am_M) := (am_bx (g_X9_demandFinalRoute a1 a2 M) (fun _ M2 => (some ((.inl (am_g M2 158 3) : Int32 ⊕ Nat), M2))))
set_option maxHeartbeats 4000000 in
set_option maxRecDepth 100000 in
theorem c_X9_arrival (l : Launch) (hls : l.stackTraces = false) (D : va_G) (E : Nat → ClassId) (z : Nat) (a1 : Int32) (a2 : Int32) (M : am_M) (o : Int32 ⊕ Nat) (M1 : am_M) (h : g_X9_arrival a1 a2 M = some (o, M1)) : am_Xi l yX9_arrival cX9_arrival 3 (some .int) rm_X9_arrival D E z [.ref (z + 0), .int a1, .int a2] M 4 24 o M1 := by
  unfold g_X9_arrival at h
  refine am_xof (own := RX9) (by decide +kernel) rfl (by exact Nat.le_of_ble_eq_true rfl) ?_
  intro p e s m args below meth c F hr ht0
  show am_W p l e rm_X9_arrival s m args below meth c _ 3 D E z 0 0 M 0 [(0, .ref (z + 0)), (1, .int a1), (2, .int a2)] []
  refine am_aload_n F 0 dX9_arrival_0 rfl rfl ?_
  refine am_iload_n F 1 dX9_arrival_1 rfl rfl ?_
  refine am_iload_n F 2 dX9_arrival_2 rfl rfl ?_
  obtain ⟨o3, M2, h1, h⟩ := am_bxE h
  refine am_xcallVv F ht0 [.int a1, .int a2] lyk_0 (by decide) rfl cw_X9_157 (c_X9_demandFinalRoute l hls D E z a1 a2 M o3 M2 h1) yn_X9_demandFinalRoute rfl ⟨Nat.le_of_ble_eq_true rfl, Nat.le_of_ble_eq_true rfl⟩ rfl rfl (Nat.le_of_ble_eq_true rfl) ⟨Nat.le_of_ble_eq_true rfl, Nat.le_of_ble_eq_true rfl⟩ ⟨Nat.le_of_ble_eq_true rfl, Nat.le_of_ble_eq_true rfl⟩ dX9_arrival_3 rfl h (fun _ _ h => ?_)
  refine am_aload_n F 0 dX9_arrival_6 rfl rfl ?_
  refine gf_X9_27 F lyk_0 dX9_arrival_7 ?_
  refine gf_X9_173 F lyk_157 dX9_arrival_10 ?_
  refine gf_X9_176 F lyk_158 dX9_arrival_13 ?_
  exact am_xiret F hr ⟨Nat.le_of_ble_eq_true rfl, Nat.le_of_ble_eq_true rfl⟩ h dX9_arrival_16
/-! AisleScheduler.routeCost(II)I -/
abbrev rm_X9_routeCost : Room := { frames := 8, cells := 4, slots := 24, locals := 177 }
theorem yn_X9_routeCost : am_yn yX9_routeCost 2 := ⟨⟨by decide +kernel, by decide +kernel⟩, by decide +kernel⟩
def g_X9_routeCost (a1 : Int32) (a2 : Int32) (M : am_M) : Option ((Int32 ⊕ Nat) × am_M) := (am_bx (g_X9_demandFinalRoute a1 a2 M) (fun _ M2 => (some ((.inl (am_g M2 158 4) : Int32 ⊕ Nat), M2))))
set_option maxHeartbeats 4000000 in
set_option maxRecDepth 100000 in
theorem c_X9_routeCost (l : Launch) (hls : l.stackTraces = false) (D : va_G) (E : Nat → ClassId) (z : Nat) (a1 : Int32) (a2 : Int32) (M : am_M) (o : Int32 ⊕ Nat) (M1 : am_M) (h : g_X9_routeCost a1 a2 M = some (o, M1)) : am_Xi l yX9_routeCost cX9_routeCost 3 (some .int) rm_X9_routeCost D E z [.ref (z + 0), .int a1, .int a2] M 4 24 o M1 := by
  unfold g_X9_routeCost at h
  refine am_xof (own := RX9) (by decide +kernel) rfl (by exact Nat.le_of_ble_eq_true rfl) ?_
  intro p e s m args below meth c F hr ht0
  show am_W p l e rm_X9_routeCost s m args below meth c _ 3 D E z 0 0 M 0 [(0, .ref (z + 0)), (1, .int a1), (2, .int a2)] []
  refine am_aload_n F 0 dX9_routeCost_0 rfl rfl ?_
  refine am_iload_n F 1 dX9_routeCost_1 rfl rfl ?_
  refine am_iload_n F 2 dX9_routeCost_2 rfl rfl ?_
  obtain ⟨o3, M2, h1, h⟩ := am_bxE h
  refine am_xcallVv F ht0 [.int a1, .int a2] lyk_0 (by decide) rfl cw_X9_157 (c_X9_demandFinalRoute l hls D E z a1 a2 M o3 M2 h1) yn_X9_demandFinalRoute rfl ⟨Nat.le_of_ble_eq_true rfl, Nat.le_of_ble_eq_true rfl⟩ rfl rfl (Nat.le_of_ble_eq_true rfl) ⟨Nat.le_of_ble_eq_true rfl, Nat.le_of_ble_eq_true rfl⟩ ⟨Nat.le_of_ble_eq_true rfl, Nat.le_of_ble_eq_true rfl⟩ dX9_routeCost_3 rfl h (fun _ _ h => ?_)
  refine am_aload_n F 0 dX9_routeCost_6 rfl rfl ?_
  refine gf_X9_27 F lyk_0 dX9_routeCost_7 ?_
  refine gf_X9_173 F lyk_157 dX9_routeCost_10 ?_
  refine gf_X9_179 F lyk_158 dX9_routeCost_13 ?_
  exact am_xiret F hr ⟨Nat.le_of_ble_eq_true rfl, Nat.le_of_ble_eq_true rfl⟩ h dX9_routeCost_16
/-! AisleScheduler.action(II)I -/
abbrev rm_X9_action : Room := { frames := 7, cells := 2, slots := 12, locals := 121 }
theorem yn_X9_action : am_yn yX9_action 2 := ⟨⟨by decide +kernel, by decide +kernel⟩, by decide +kernel⟩
def g_X9_action (a1 : Int32) (a2 : Int32) (M : am_M) : Option ((Int32 ⊕ Nat) × am_M) := (am_bx (g_X9_demandRobot a1 M) (fun _ M2 => (am_b (g_X8_robotOf 1 a1 M2) (fun v6 M5 => (am_b (g_X2_restAction (v6 + 1) (am_g M5 1 4) a2 M5) (fun v9 M8 => (if (0 : Int32) ≤ v9 then (some ((.inl v9 : Int32 ⊕ Nat), M8)) else (some ((.inr 4 : Int32 ⊕ Nat), M8)))))))))
set_option maxHeartbeats 4000000 in
set_option maxRecDepth 100000 in
theorem c_X9_action (l : Launch) (hls : l.stackTraces = false) (D : va_G) (E : Nat → ClassId) (z : Nat) (a1 : Int32) (a2 : Int32) (M : am_M) (o : Int32 ⊕ Nat) (M1 : am_M) (h : g_X9_action a1 a2 M = some (o, M1)) : am_Xi l yX9_action cX9_action 4 (some .int) rm_X9_action D E z [.ref (z + 0), .int a1, .int a2] M 2 12 o M1 := by
  unfold g_X9_action at h
  refine am_xof (own := RX9) (by decide +kernel) rfl (by exact Nat.le_of_ble_eq_true rfl) ?_
  intro p e s m args below meth c F hr ht0
  show am_W p l e rm_X9_action s m args below meth c _ 4 D E z 0 0 M 0 [(0, .ref (z + 0)), (1, .int a1), (2, .int a2)] []
  refine am_aload_n F 0 dX9_action_0 rfl rfl ?_
  refine am_iload_n F 1 dX9_action_1 rfl rfl ?_
  obtain ⟨o3, M2, h1, h⟩ := am_bxE h
  refine am_xcallVv F ht0 [.int a1] lyk_0 (by decide) rfl cw_X9_93 (c_X9_demandRobot l hls D E z a1 M o3 M2 h1) yn_X9_demandRobot rfl ⟨Nat.le_of_ble_eq_true rfl, Nat.le_of_ble_eq_true rfl⟩ rfl rfl (Nat.le_of_ble_eq_true rfl) ⟨Nat.le_of_ble_eq_true rfl, Nat.le_of_ble_eq_true rfl⟩ ⟨Nat.le_of_ble_eq_true rfl, Nat.le_of_ble_eq_true rfl⟩ dX9_action_2 rfl h (fun _ _ h => ?_)
  refine am_aload_n F 0 dX9_action_5 rfl rfl ?_
  refine gf_X9_12 F lyk_0 dX9_action_6 ?_
  refine am_iload_n F 1 dX9_action_9 rfl rfl ?_
  obtain ⟨v6, M5, h4, h⟩ := am_bE h
  refine am_callVr F [.int a1] lyk_1 (by decide) rfl cw_X9_96 (c_X8_robotOf l D E z 1 lyk_1 a1 M2 v6 M5 h4) yn_X8_robotOf rfl ⟨Nat.le_of_ble_eq_true rfl, Nat.le_of_ble_eq_true rfl⟩ rfl rfl (Nat.le_of_ble_eq_true rfl) ⟨Nat.le_of_ble_eq_true rfl, Nat.le_of_ble_eq_true rfl⟩ dX9_action_10 rfl ?_
  refine gf_X9_100 F (q_X8_robotOf 1 lyk_1 a1 M2 v6 M5 h4) dX9_action_13 ?_
  refine am_aload_n F 0 dX9_action_16 rfl rfl ?_
  refine gf_X9_12 F lyk_0 dX9_action_17 ?_
  refine gf_X9_106 F lyk_1 dX9_action_20 ?_
  refine am_iload_n F 2 dX9_action_23 rfl rfl ?_
  obtain ⟨v9, M8, h7, h⟩ := am_bE h
  refine am_callVi F [.int (am_g M5 1 4), .int a2] (lyf_4_plan (q_X8_robotOf 1 lyk_1 a1 M2 v6 M5 h4)) (by decide) rfl cw_X9_182 (c_X2_restAction l D E z (v6 + 1) (lyf_4_plan (q_X8_robotOf 1 lyk_1 a1 M2 v6 M5 h4)) (am_g M5 1 4) a2 M5 v9 M8 h7) yn_X2_restAction rfl ⟨Nat.le_of_ble_eq_true rfl, Nat.le_of_ble_eq_true rfl⟩ rfl rfl (Nat.le_of_ble_eq_true rfl) ⟨Nat.le_of_ble_eq_true rfl, Nat.le_of_ble_eq_true rfl⟩ dX9_action_24 rfl ?_
  refine am_istore_n F [(3, .int v9), (0, .ref (z + 0)), (1, .int a1), (2, .int a2)] dX9_action_27 rfl (by decide) rfl ?_
  refine am_iload_n F 0 dX9_action_28 rfl rfl ?_
  refine am_if_ge F (tgt := 42) dX9_action_29 (by decide) (fun c10 => ?_) (fun c10 => ?_)
  · have h := (if_pos c10).symm.trans h
    refine am_iload_n F 0 dX9_action_42 rfl rfl ?_
    exact am_xiret F hr ⟨Nat.le_of_ble_eq_true rfl, Nat.le_of_ble_eq_true rfl⟩ h dX9_action_43
  · have h := (if_neg c10).symm.trans h
    exact am_throw4 F ht0 hls xt_X9_152_185_156 ⟨Nat.le_of_ble_eq_true rfl, Nat.le_of_ble_eq_true rfl, Nat.le_of_ble_eq_true rfl, Nat.le_of_ble_eq_true rfl⟩ ⟨Nat.le_of_ble_eq_true rfl, Nat.le_of_ble_eq_true rfl⟩ h dX9_action_32 dX9_action_35 dX9_action_36 dX9_action_38 dX9_action_41
/-! AisleScheduler.demandTicks(II)V -/
abbrev rm_X9_demandTicks : Room := { frames := 6, cells := 1, slots := 6, locals := 100 }
theorem yn_X9_demandTicks : am_yn yX9_demandTicks 2 := ⟨⟨by decide +kernel, by decide +kernel⟩, by decide +kernel⟩
def g_X9_demandTicks (a0 : Int32) (a1 : Int32) (M : am_M) : Option ((Unit ⊕ Nat) × am_M) := (if a0 < a1 then (some ((.inr 2 : Unit ⊕ Nat), M)) else (if a0 ≤ (30 : Int32) then (some ((.inl () : Unit ⊕ Nat), M)) else (some ((.inr 2 : Unit ⊕ Nat), M))))
set_option maxHeartbeats 4000000 in
set_option maxRecDepth 100000 in
theorem c_X9_demandTicks (l : Launch) (hls : l.stackTraces = false) (D : va_G) (E : Nat → ClassId) (z : Nat) (a0 : Int32) (a1 : Int32) (M : am_M) (o : Unit ⊕ Nat) (M1 : am_M) (h : g_X9_demandTicks a0 a1 M = some (o, M1)) : am_Xv l yX9_demandTicks cX9_demandTicks 2 none rm_X9_demandTicks D E z [.int a0, .int a1] M 1 6 o M1 := by
  unfold g_X9_demandTicks at h
  refine am_xof (own := RX9) (by decide +kernel) rfl (by exact Nat.le_of_ble_eq_true rfl) ?_
  intro p e s m args below meth c F hr ht0
  show am_W p l e rm_X9_demandTicks s m args below meth c _ 2 D E z 0 0 M 0 [(0, .int a0), (1, .int a1)] []
  refine am_iload_n F 0 dX9_demandTicks_0 rfl rfl ?_
  refine am_iload_n F 1 dX9_demandTicks_1 rfl rfl ?_
  refine am_icmp_lt F (tgt := 11) dX9_demandTicks_2 (by decide) (fun c2 => ?_) (fun c2 => ?_)
  · have h := (if_pos c2).symm.trans h
    exact am_throwW F ht0 hls xt_X9_132_415_136 ⟨Nat.le_of_ble_eq_true rfl, Nat.le_of_ble_eq_true rfl, Nat.le_of_ble_eq_true rfl, Nat.le_of_ble_eq_true rfl⟩ ⟨Nat.le_of_ble_eq_true rfl, Nat.le_of_ble_eq_true rfl⟩ h dX9_demandTicks_11 dX9_demandTicks_14 dX9_demandTicks_15 dX9_demandTicks_18 dX9_demandTicks_21
  · have h := (if_neg c2).symm.trans h
    refine am_iload_n F 0 dX9_demandTicks_5 rfl rfl ?_
    refine am_bipush F (v := (30 : Int32)) dX9_demandTicks_6 (by decide) ?_
    refine am_icmp_le F (tgt := 22) dX9_demandTicks_8 (by decide) (fun c1 => ?_) (fun c1 => ?_)
    · have h := (if_pos c1).symm.trans h
      exact am_xvret F hr ⟨Nat.le_of_ble_eq_true rfl, Nat.le_of_ble_eq_true rfl⟩ h dX9_demandTicks_22
    · have h := (if_neg c1).symm.trans h
      exact am_throwW F ht0 hls xt_X9_132_415_136 ⟨Nat.le_of_ble_eq_true rfl, Nat.le_of_ble_eq_true rfl, Nat.le_of_ble_eq_true rfl, Nat.le_of_ble_eq_true rfl⟩ ⟨Nat.le_of_ble_eq_true rfl, Nat.le_of_ble_eq_true rfl⟩ h dX9_demandTicks_11 dX9_demandTicks_14 dX9_demandTicks_15 dX9_demandTicks_18 dX9_demandTicks_21
/-! AisleScheduler.cellAfter(II)I -/
abbrev rm_X9_cellAfter : Room := { frames := 7, cells := 2, slots := 12, locals := 121 }
theorem yn_X9_cellAfter : am_yn yX9_cellAfter 2 := ⟨⟨by decide +kernel, by decide +kernel⟩, by decide +kernel⟩
def g_X9_cellAfter (a1 : Int32) (a2 : Int32) (M : am_M) : Option ((Int32 ⊕ Nat) × am_M) := (am_bx (g_X9_demandRobot a1 M) (fun _ M2 => (am_bx (g_X9_demandTicks a2 (0 : Int32) M2) (fun _ M5 => (am_b (g_X8_robotOf 1 a1 M5) (fun v9 M8 => (am_b (g_X2_placeAt (v9 + 1) ((am_g M8 1 4) + a2) M8) (fun v12 M11 => (some ((.inl v12 : Int32 ⊕ Nat), M11))))))))))
set_option maxHeartbeats 4000000 in
set_option maxRecDepth 100000 in
theorem c_X9_cellAfter (l : Launch) (hls : l.stackTraces = false) (D : va_G) (E : Nat → ClassId) (z : Nat) (a1 : Int32) (a2 : Int32) (M : am_M) (o : Int32 ⊕ Nat) (M1 : am_M) (h : g_X9_cellAfter a1 a2 M = some (o, M1)) : am_Xi l yX9_cellAfter cX9_cellAfter 3 (some .int) rm_X9_cellAfter D E z [.ref (z + 0), .int a1, .int a2] M 2 12 o M1 := by
  unfold g_X9_cellAfter at h
  refine am_xof (own := RX9) (by decide +kernel) rfl (by exact Nat.le_of_ble_eq_true rfl) ?_
  intro p e s m args below meth c F hr ht0
  show am_W p l e rm_X9_cellAfter s m args below meth c _ 3 D E z 0 0 M 0 [(0, .ref (z + 0)), (1, .int a1), (2, .int a2)] []
  refine am_aload_n F 0 dX9_cellAfter_0 rfl rfl ?_
  refine am_iload_n F 1 dX9_cellAfter_1 rfl rfl ?_
  obtain ⟨o3, M2, h1, h⟩ := am_bxE h
  refine am_xcallVv F ht0 [.int a1] lyk_0 (by decide) rfl cw_X9_93 (c_X9_demandRobot l hls D E z a1 M o3 M2 h1) yn_X9_demandRobot rfl ⟨Nat.le_of_ble_eq_true rfl, Nat.le_of_ble_eq_true rfl⟩ rfl rfl (Nat.le_of_ble_eq_true rfl) ⟨Nat.le_of_ble_eq_true rfl, Nat.le_of_ble_eq_true rfl⟩ ⟨Nat.le_of_ble_eq_true rfl, Nat.le_of_ble_eq_true rfl⟩ dX9_cellAfter_2 rfl h (fun _ _ h => ?_)
  refine am_iload_n F 2 dX9_cellAfter_5 rfl rfl ?_
  refine am_iconst F (v := (0 : Int32)) dX9_cellAfter_6 (by decide) ?_
  obtain ⟨o6, M5, h4, h⟩ := am_bxE h
  refine am_xcallSv F ht0 [.int a2, .int (0 : Int32)] cw_X9_187 rfl (c_X9_demandTicks l hls D E z a2 (0 : Int32) M2 o6 M5 h4) yn_X9_demandTicks rfl ⟨Nat.le_of_ble_eq_true rfl, Nat.le_of_ble_eq_true rfl⟩ rfl rfl (Nat.le_of_ble_eq_true rfl) ⟨Nat.le_of_ble_eq_true rfl, Nat.le_of_ble_eq_true rfl⟩ ⟨Nat.le_of_ble_eq_true rfl, Nat.le_of_ble_eq_true rfl⟩ dX9_cellAfter_7 rfl h (fun _ _ h => ?_)
  refine am_aload_n F 0 dX9_cellAfter_10 rfl rfl ?_
  refine gf_X9_12 F lyk_0 dX9_cellAfter_11 ?_
  refine am_iload_n F 1 dX9_cellAfter_14 rfl rfl ?_
  obtain ⟨v9, M8, h7, h⟩ := am_bE h
  refine am_callVr F [.int a1] lyk_1 (by decide) rfl cw_X9_96 (c_X8_robotOf l D E z 1 lyk_1 a1 M5 v9 M8 h7) yn_X8_robotOf rfl ⟨Nat.le_of_ble_eq_true rfl, Nat.le_of_ble_eq_true rfl⟩ rfl rfl (Nat.le_of_ble_eq_true rfl) ⟨Nat.le_of_ble_eq_true rfl, Nat.le_of_ble_eq_true rfl⟩ dX9_cellAfter_15 rfl ?_
  refine gf_X9_100 F (q_X8_robotOf 1 lyk_1 a1 M5 v9 M8 h7) dX9_cellAfter_18 ?_
  refine am_aload_n F 0 dX9_cellAfter_21 rfl rfl ?_
  refine gf_X9_12 F lyk_0 dX9_cellAfter_22 ?_
  refine gf_X9_106 F lyk_1 dX9_cellAfter_25 ?_
  refine am_iload_n F 2 dX9_cellAfter_28 rfl rfl ?_
  refine am_iadd F dX9_cellAfter_29 ?_
  obtain ⟨v12, M11, h10, h⟩ := am_bE h
  refine am_callVi F [.int ((am_g M8 1 4) + a2)] (lyf_4_plan (q_X8_robotOf 1 lyk_1 a1 M5 v9 M8 h7)) (by decide) rfl cw_X9_109 (c_X2_placeAt l D E z (v9 + 1) (lyf_4_plan (q_X8_robotOf 1 lyk_1 a1 M5 v9 M8 h7)) ((am_g M8 1 4) + a2) M8 v12 M11 h10) yn_X2_placeAt rfl ⟨Nat.le_of_ble_eq_true rfl, Nat.le_of_ble_eq_true rfl⟩ rfl rfl (Nat.le_of_ble_eq_true rfl) ⟨Nat.le_of_ble_eq_true rfl, Nat.le_of_ble_eq_true rfl⟩ dX9_cellAfter_30 rfl ?_
  exact am_xiret F hr ⟨Nat.le_of_ble_eq_true rfl, Nat.le_of_ble_eq_true rfl⟩ h dX9_cellAfter_33
/-! AisleScheduler.robotAt(II)I -/
abbrev rm_X9_robotAt : Room := { frames := 7, cells := 2, slots := 12, locals := 121 }
theorem yn_X9_robotAt : am_yn yX9_robotAt 2 := ⟨⟨by decide +kernel, by decide +kernel⟩, by decide +kernel⟩
def g_X9_robotAt (a1 : Int32) (a2 : Int32) (M : am_M) : Option ((Int32 ⊕ Nat) × am_M) := (am_bx (g_X9_demandCell a1 M) (fun _ M2 => (am_bx (g_X9_demandTicks a2 (0 : Int32) M2) (fun _ M5 => (am_b (g_X8_occupant 1 a1 ((am_g M5 1 4) + a2) M5) (fun v9 M8 => (some ((.inl v9 : Int32 ⊕ Nat), M8))))))))
set_option maxHeartbeats 4000000 in
set_option maxRecDepth 100000 in
theorem c_X9_robotAt (l : Launch) (hls : l.stackTraces = false) (D : va_G) (E : Nat → ClassId) (z : Nat) (a1 : Int32) (a2 : Int32) (M : am_M) (o : Int32 ⊕ Nat) (M1 : am_M) (h : g_X9_robotAt a1 a2 M = some (o, M1)) : am_Xi l yX9_robotAt cX9_robotAt 3 (some .int) rm_X9_robotAt D E z [.ref (z + 0), .int a1, .int a2] M 2 12 o M1 := by
  unfold g_X9_robotAt at h
  refine am_xof (own := RX9) (by decide +kernel) rfl (by exact Nat.le_of_ble_eq_true rfl) ?_
  intro p e s m args below meth c F hr ht0
  show am_W p l e rm_X9_robotAt s m args below meth c _ 3 D E z 0 0 M 0 [(0, .ref (z + 0)), (1, .int a1), (2, .int a2)] []
  refine am_iload_n F 1 dX9_robotAt_0 rfl rfl ?_
  obtain ⟨o3, M2, h1, h⟩ := am_bxE h
  refine am_xcallSv F ht0 [.int a1] cw_X9_81 rfl (c_X9_demandCell l hls D E z a1 M o3 M2 h1) yn_X9_demandCell rfl ⟨Nat.le_of_ble_eq_true rfl, Nat.le_of_ble_eq_true rfl⟩ rfl rfl (Nat.le_of_ble_eq_true rfl) ⟨Nat.le_of_ble_eq_true rfl, Nat.le_of_ble_eq_true rfl⟩ ⟨Nat.le_of_ble_eq_true rfl, Nat.le_of_ble_eq_true rfl⟩ dX9_robotAt_1 rfl h (fun _ _ h => ?_)
  refine am_iload_n F 2 dX9_robotAt_4 rfl rfl ?_
  refine am_iconst F (v := (0 : Int32)) dX9_robotAt_5 (by decide) ?_
  obtain ⟨o6, M5, h4, h⟩ := am_bxE h
  refine am_xcallSv F ht0 [.int a2, .int (0 : Int32)] cw_X9_187 rfl (c_X9_demandTicks l hls D E z a2 (0 : Int32) M2 o6 M5 h4) yn_X9_demandTicks rfl ⟨Nat.le_of_ble_eq_true rfl, Nat.le_of_ble_eq_true rfl⟩ rfl rfl (Nat.le_of_ble_eq_true rfl) ⟨Nat.le_of_ble_eq_true rfl, Nat.le_of_ble_eq_true rfl⟩ ⟨Nat.le_of_ble_eq_true rfl, Nat.le_of_ble_eq_true rfl⟩ dX9_robotAt_6 rfl h (fun _ _ h => ?_)
  refine am_aload_n F 0 dX9_robotAt_9 rfl rfl ?_
  refine gf_X9_12 F lyk_0 dX9_robotAt_10 ?_
  refine am_iload_n F 1 dX9_robotAt_13 rfl rfl ?_
  refine am_aload_n F 0 dX9_robotAt_14 rfl rfl ?_
  refine gf_X9_12 F lyk_0 dX9_robotAt_15 ?_
  refine gf_X9_106 F lyk_1 dX9_robotAt_18 ?_
  refine am_iload_n F 2 dX9_robotAt_21 rfl rfl ?_
  refine am_iadd F dX9_robotAt_22 ?_
  obtain ⟨v9, M8, h7, h⟩ := am_bE h
  refine am_callVi F [.int a1, .int ((am_g M5 1 4) + a2)] lyk_1 (by decide) rfl cw_X9_190 (c_X8_occupant l D E z 1 lyk_1 a1 ((am_g M5 1 4) + a2) M5 v9 M8 h7) yn_X8_occupant rfl ⟨Nat.le_of_ble_eq_true rfl, Nat.le_of_ble_eq_true rfl⟩ rfl rfl (Nat.le_of_ble_eq_true rfl) ⟨Nat.le_of_ble_eq_true rfl, Nat.le_of_ble_eq_true rfl⟩ dX9_robotAt_23 rfl ?_
  exact am_xiret F hr ⟨Nat.le_of_ble_eq_true rfl, Nat.le_of_ble_eq_true rfl⟩ h dX9_robotAt_26
/-! AisleScheduler.cancel(I)I -/
abbrev rm_X9_cancel : Room := { frames := 7, cells := 3, slots := 18, locals := 121 }
theorem yn_X9_cancel : am_yn yX9_cancel 1 := ⟨⟨by decide +kernel, by decide +kernel⟩, by decide +kernel⟩
def g_X9_cancel (a1 : Int32) (M : am_M) : Option ((Int32 ⊕ Nat) × am_M) := (am_bx (g_X9_demandRobot a1 M) (fun _ M2 => (am_bx (g_X9_demandOutsideLift a1 M2) (fun _ M5 => (am_b (g_X8_robotOf 1 a1 M5) (fun v9 M8 => (am_b (g_X2_placeAt (v9 + 1) (am_g M8 1 4) M8) (fun v12 M11 => (am_b (g_X8_isMet 1 v12 a1 M11) (fun v15 M14 => (if v15 = (0 : Int32) then (am_b (g_X2_ticksLeft (v9 + 1) (am_g M14 1 4) M14) (fun v18 M17 => (am_b (g_X8_reopenTaskOf 1 v9 M17) (fun _ M20 => (am_b (g_X2_restAt (v9 + 1) v12 (am_g M20 1 4) M20) (fun _ M22 => (some ((.inl v18 : Int32 ⊕ Nat), M22)))))))) else (some ((.inr 5 : Int32 ⊕ Nat), M14)))))))))))))
set_option maxHeartbeats 4000000 in
set_option maxRecDepth 100000 in
theorem c_X9_cancel (l : Launch) (hls : l.stackTraces = false) (D : va_G) (E : Nat → ClassId) (z : Nat) (a1 : Int32) (M : am_M) (o : Int32 ⊕ Nat) (M1 : am_M) (h : g_X9_cancel a1 M = some (o, M1)) : am_Xi l yX9_cancel cX9_cancel 5 (some .int) rm_X9_cancel D E z [.ref (z + 0), .int a1] M 3 18 o M1 := by
  unfold g_X9_cancel at h
  refine am_xof (own := RX9) (by decide +kernel) rfl (by exact Nat.le_of_ble_eq_true rfl) ?_
  intro p e s m args below meth c F hr ht0
  show am_W p l e rm_X9_cancel s m args below meth c _ 5 D E z 0 0 M 0 [(0, .ref (z + 0)), (1, .int a1)] []
  refine am_aload_n F 0 dX9_cancel_0 rfl rfl ?_
  refine am_iload_n F 1 dX9_cancel_1 rfl rfl ?_
  obtain ⟨o3, M2, h1, h⟩ := am_bxE h
  refine am_xcallVv F ht0 [.int a1] lyk_0 (by decide) rfl cw_X9_93 (c_X9_demandRobot l hls D E z a1 M o3 M2 h1) yn_X9_demandRobot rfl ⟨Nat.le_of_ble_eq_true rfl, Nat.le_of_ble_eq_true rfl⟩ rfl rfl (Nat.le_of_ble_eq_true rfl) ⟨Nat.le_of_ble_eq_true rfl, Nat.le_of_ble_eq_true rfl⟩ ⟨Nat.le_of_ble_eq_true rfl, Nat.le_of_ble_eq_true rfl⟩ dX9_cancel_2 rfl h (fun _ _ h => ?_)
  refine am_aload_n F 0 dX9_cancel_5 rfl rfl ?_
  refine am_iload_n F 1 dX9_cancel_6 rfl rfl ?_
  obtain ⟨o6, M5, h4, h⟩ := am_bxE h
  refine am_xcallVv F ht0 [.int a1] lyk_0 (by decide) rfl cw_X9_193 (c_X9_demandOutsideLift l hls D E z a1 M2 o6 M5 h4) yn_X9_demandOutsideLift rfl ⟨Nat.le_of_ble_eq_true rfl, Nat.le_of_ble_eq_true rfl⟩ rfl rfl (Nat.le_of_ble_eq_true rfl) ⟨Nat.le_of_ble_eq_true rfl, Nat.le_of_ble_eq_true rfl⟩ ⟨Nat.le_of_ble_eq_true rfl, Nat.le_of_ble_eq_true rfl⟩ dX9_cancel_7 rfl h (fun _ _ h => ?_)
  refine am_aload_n F 0 dX9_cancel_10 rfl rfl ?_
  refine gf_X9_12 F lyk_0 dX9_cancel_11 ?_
  refine am_iload_n F 1 dX9_cancel_14 rfl rfl ?_
  obtain ⟨v9, M8, h7, h⟩ := am_bE h
  refine am_callVr F [.int a1] lyk_1 (by decide) rfl cw_X9_96 (c_X8_robotOf l D E z 1 lyk_1 a1 M5 v9 M8 h7) yn_X8_robotOf rfl ⟨Nat.le_of_ble_eq_true rfl, Nat.le_of_ble_eq_true rfl⟩ rfl rfl (Nat.le_of_ble_eq_true rfl) ⟨Nat.le_of_ble_eq_true rfl, Nat.le_of_ble_eq_true rfl⟩ dX9_cancel_15 rfl ?_
  refine am_astore_n F [(2, .ref (z + v9)), (0, .ref (z + 0)), (1, .int a1)] dX9_cancel_18 rfl (by decide) rfl ?_
  refine am_aload_n F 0 dX9_cancel_19 rfl rfl ?_
  refine gf_X9_100 F (q_X8_robotOf 1 lyk_1 a1 M5 v9 M8 h7) dX9_cancel_20 ?_
  refine am_aload_n F 1 dX9_cancel_23 rfl rfl ?_
  refine gf_X9_12 F lyk_0 dX9_cancel_24 ?_
  refine gf_X9_106 F lyk_1 dX9_cancel_27 ?_
  obtain ⟨v12, M11, h10, h⟩ := am_bE h
  refine am_callVi F [.int (am_g M8 1 4)] (lyf_4_plan (q_X8_robotOf 1 lyk_1 a1 M5 v9 M8 h7)) (by decide) rfl cw_X9_109 (c_X2_placeAt l D E z (v9 + 1) (lyf_4_plan (q_X8_robotOf 1 lyk_1 a1 M5 v9 M8 h7)) (am_g M8 1 4) M8 v12 M11 h10) yn_X2_placeAt rfl ⟨Nat.le_of_ble_eq_true rfl, Nat.le_of_ble_eq_true rfl⟩ rfl rfl (Nat.le_of_ble_eq_true rfl) ⟨Nat.le_of_ble_eq_true rfl, Nat.le_of_ble_eq_true rfl⟩ dX9_cancel_30 rfl ?_
  refine am_istore_n F [(3, .int v12), (2, .ref (z + v9)), (0, .ref (z + 0)), (1, .int a1)] dX9_cancel_33 rfl (by decide) rfl ?_
  refine am_aload_n F 2 dX9_cancel_34 rfl rfl ?_
  refine gf_X9_12 F lyk_0 dX9_cancel_35 ?_
  refine am_iload_n F 0 dX9_cancel_38 rfl rfl ?_
  refine am_iload_n F 3 dX9_cancel_39 rfl rfl ?_
  obtain ⟨v15, M14, h13, h⟩ := am_bE h
  refine am_callVi F [.int v12, .int a1] lyk_1 (by decide) rfl cw_X9_196 (c_X8_isMet l D E z 1 lyk_1 v12 a1 M11 v15 M14 h13) yn_X8_isMet rfl ⟨Nat.le_of_ble_eq_true rfl, Nat.le_of_ble_eq_true rfl⟩ rfl rfl (Nat.le_of_ble_eq_true rfl) ⟨Nat.le_of_ble_eq_true rfl, Nat.le_of_ble_eq_true rfl⟩ dX9_cancel_40 rfl ?_
  refine am_if_eq F (tgt := 56) dX9_cancel_43 (by decide) (fun c23 => ?_) (fun c23 => ?_)
  · have h := (if_pos c23).symm.trans h
    refine am_aload_n F 1 dX9_cancel_56 rfl rfl ?_
    refine gf_X9_100 F (q_X8_robotOf 1 lyk_1 a1 M5 v9 M8 h7) dX9_cancel_57 ?_
    refine am_aload_n F 2 dX9_cancel_60 rfl rfl ?_
    refine gf_X9_12 F lyk_0 dX9_cancel_61 ?_
    refine gf_X9_106 F lyk_1 dX9_cancel_64 ?_
    obtain ⟨v18, M17, h16, h⟩ := am_bE h
    refine am_callVi F [.int (am_g M14 1 4)] (lyf_4_plan (q_X8_robotOf 1 lyk_1 a1 M5 v9 M8 h7)) (by decide) rfl cw_X9_123 (c_X2_ticksLeft l D E z (v9 + 1) (lyf_4_plan (q_X8_robotOf 1 lyk_1 a1 M5 v9 M8 h7)) (am_g M14 1 4) M14 v18 M17 h16) yn_X2_ticksLeft rfl ⟨Nat.le_of_ble_eq_true rfl, Nat.le_of_ble_eq_true rfl⟩ rfl rfl (Nat.le_of_ble_eq_true rfl) ⟨Nat.le_of_ble_eq_true rfl, Nat.le_of_ble_eq_true rfl⟩ dX9_cancel_67 rfl ?_
    refine am_istore F [(4, .int v18), (3, .int v12), (2, .ref (z + v9)), (0, .ref (z + 0)), (1, .int a1)] dX9_cancel_70 (by decide) rfl ?_
    refine am_aload_n F 3 dX9_cancel_72 rfl rfl ?_
    refine gf_X9_12 F lyk_0 dX9_cancel_73 ?_
    refine am_aload_n F 2 dX9_cancel_76 rfl rfl ?_
    obtain ⟨_, M20, h19, h⟩ := am_bE h
    refine am_callVv F [.ref (z + v9)] lyk_1 (by decide) rfl cw_X9_202 (c_X8_reopenTaskOf l D E z 1 lyk_1 v9 (q_X8_robotOf 1 lyk_1 a1 M5 v9 M8 h7) M17 M20 h19) yn_X8_reopenTaskOf rfl ⟨Nat.le_of_ble_eq_true rfl, Nat.le_of_ble_eq_true rfl⟩ rfl rfl (Nat.le_of_ble_eq_true rfl) ⟨Nat.le_of_ble_eq_true rfl, Nat.le_of_ble_eq_true rfl⟩ dX9_cancel_77 rfl ?_
    refine am_aload_n F 2 dX9_cancel_80 rfl rfl ?_
    refine gf_X9_100 F (q_X8_robotOf 1 lyk_1 a1 M5 v9 M8 h7) dX9_cancel_81 ?_
    refine am_iload_n F 1 dX9_cancel_84 rfl rfl ?_
    refine am_aload_n F 3 dX9_cancel_85 rfl rfl ?_
    refine gf_X9_12 F lyk_0 dX9_cancel_86 ?_
    refine gf_X9_106 F lyk_1 dX9_cancel_89 ?_
    obtain ⟨_, M22, h21, h⟩ := am_bE h
    refine am_callVv F [.int v12, .int (am_g M20 1 4)] (lyf_4_plan (q_X8_robotOf 1 lyk_1 a1 M5 v9 M8 h7)) (by decide) rfl cw_X9_206 (c_X2_restAt l D E z (v9 + 1) (lyf_4_plan (q_X8_robotOf 1 lyk_1 a1 M5 v9 M8 h7)) v12 (am_g M20 1 4) M20 M22 h21) yn_X2_restAt rfl ⟨Nat.le_of_ble_eq_true rfl, Nat.le_of_ble_eq_true rfl⟩ rfl rfl (Nat.le_of_ble_eq_true rfl) ⟨Nat.le_of_ble_eq_true rfl, Nat.le_of_ble_eq_true rfl⟩ dX9_cancel_92 rfl ?_
    refine am_iload F 0 dX9_cancel_95 rfl ?_
    exact am_xiret F hr ⟨Nat.le_of_ble_eq_true rfl, Nat.le_of_ble_eq_true rfl⟩ h dX9_cancel_97
  · have h := (if_neg c23).symm.trans h
    exact am_throw F ht0 hls xt_X9_165_200_169 ⟨Nat.le_of_ble_eq_true rfl, Nat.le_of_ble_eq_true rfl, Nat.le_of_ble_eq_true rfl, Nat.le_of_ble_eq_true rfl⟩ ⟨Nat.le_of_ble_eq_true rfl, Nat.le_of_ble_eq_true rfl⟩ h dX9_cancel_46 dX9_cancel_49 dX9_cancel_50 dX9_cancel_52 dX9_cancel_55
/-! AisleScheduler.blockers(II)I -/
abbrev rm_X9_blockers : Room := { frames := 7, cells := 2, slots := 12, locals := 167 }
theorem yn_X9_blockers : am_yn yX9_blockers 2 := ⟨⟨by decide +kernel, by decide +kernel⟩, by decide +kernel⟩
def g_X9_blockers (a1 : Int32) (a2 : Int32) (M : am_M) : Option ((Int32 ⊕ Nat) × am_M) := (am_bx (g_X9_demandRobot a1 M) (fun _ M2 => (am_bx (g_X9_demandCell a2 M2) (fun _ M5 => (am_b (g_X8_isInLift 1 a1 M5) (fun v9 M8 => (if v9 = (0 : Int32) then (am_b (g_X3_blockersOf a1 a2 M8) (fun v12 M11 => (some ((.inl v12 : Int32 ⊕ Nat), M11)))) else (some ((.inl (0 : Int32) : Int32 ⊕ Nat), M8)))))))))
set_option maxHeartbeats 4000000 in
set_option maxRecDepth 100000 in
theorem c_X9_blockers (l : Launch) (hls : l.stackTraces = false) (D : va_G) (E : Nat → ClassId) (z : Nat) (a1 : Int32) (a2 : Int32) (M : am_M) (o : Int32 ⊕ Nat) (M1 : am_M) (h : g_X9_blockers a1 a2 M = some (o, M1)) : am_Xi l yX9_blockers cX9_blockers 3 (some .int) rm_X9_blockers D E z [.ref (z + 0), .int a1, .int a2] M 2 12 o M1 := by
  unfold g_X9_blockers at h
  refine am_xof (own := RX9) (by decide +kernel) rfl (by exact Nat.le_of_ble_eq_true rfl) ?_
  intro p e s m args below meth c F hr ht0
  show am_W p l e rm_X9_blockers s m args below meth c _ 3 D E z 0 0 M 0 [(0, .ref (z + 0)), (1, .int a1), (2, .int a2)] []
  refine am_aload_n F 0 dX9_blockers_0 rfl rfl ?_
  refine am_iload_n F 1 dX9_blockers_1 rfl rfl ?_
  obtain ⟨o3, M2, h1, h⟩ := am_bxE h
  refine am_xcallVv F ht0 [.int a1] lyk_0 (by decide) rfl cw_X9_93 (c_X9_demandRobot l hls D E z a1 M o3 M2 h1) yn_X9_demandRobot rfl ⟨Nat.le_of_ble_eq_true rfl, Nat.le_of_ble_eq_true rfl⟩ rfl rfl (Nat.le_of_ble_eq_true rfl) ⟨Nat.le_of_ble_eq_true rfl, Nat.le_of_ble_eq_true rfl⟩ ⟨Nat.le_of_ble_eq_true rfl, Nat.le_of_ble_eq_true rfl⟩ dX9_blockers_2 rfl h (fun _ _ h => ?_)
  refine am_iload_n F 2 dX9_blockers_5 rfl rfl ?_
  obtain ⟨o6, M5, h4, h⟩ := am_bxE h
  refine am_xcallSv F ht0 [.int a2] cw_X9_81 rfl (c_X9_demandCell l hls D E z a2 M2 o6 M5 h4) yn_X9_demandCell rfl ⟨Nat.le_of_ble_eq_true rfl, Nat.le_of_ble_eq_true rfl⟩ rfl rfl (Nat.le_of_ble_eq_true rfl) ⟨Nat.le_of_ble_eq_true rfl, Nat.le_of_ble_eq_true rfl⟩ ⟨Nat.le_of_ble_eq_true rfl, Nat.le_of_ble_eq_true rfl⟩ dX9_blockers_6 rfl h (fun _ _ h => ?_)
  refine am_aload_n F 0 dX9_blockers_9 rfl rfl ?_
  refine gf_X9_12 F lyk_0 dX9_blockers_10 ?_
  refine am_iload_n F 1 dX9_blockers_13 rfl rfl ?_
  obtain ⟨v9, M8, h7, h⟩ := am_bE h
  refine am_callVi F [.int a1] lyk_1 (by decide) rfl cw_X9_209 (c_X8_isInLift l D E z 1 lyk_1 a1 M5 v9 M8 h7) yn_X8_isInLift rfl ⟨Nat.le_of_ble_eq_true rfl, Nat.le_of_ble_eq_true rfl⟩ rfl rfl (Nat.le_of_ble_eq_true rfl) ⟨Nat.le_of_ble_eq_true rfl, Nat.le_of_ble_eq_true rfl⟩ dX9_blockers_14 rfl ?_
  refine am_if_eq F (tgt := 24) dX9_blockers_17 (by decide) (fun c13 => ?_) (fun c13 => ?_)
  · have h := (if_pos c13).symm.trans h
    refine am_aload_n F 0 dX9_blockers_24 rfl rfl ?_
    refine gf_X9_27 F lyk_0 dX9_blockers_25 ?_
    refine am_iload_n F 1 dX9_blockers_28 rfl rfl ?_
    refine am_iload_n F 2 dX9_blockers_29 rfl rfl ?_
    obtain ⟨v12, M11, h10, h⟩ := am_bE h
    refine am_callVi F [.int a1, .int a2] lyk_157 (by decide) rfl cw_X9_212 (c_X3_blockersOf l D E z a1 a2 M8 v12 M11 h10) yn_X3_blockersOf rfl ⟨Nat.le_of_ble_eq_true rfl, Nat.le_of_ble_eq_true rfl⟩ rfl rfl (Nat.le_of_ble_eq_true rfl) ⟨Nat.le_of_ble_eq_true rfl, Nat.le_of_ble_eq_true rfl⟩ dX9_blockers_30 rfl ?_
    exact am_xiret F hr ⟨Nat.le_of_ble_eq_true rfl, Nat.le_of_ble_eq_true rfl⟩ h dX9_blockers_33
  · have h := (if_neg c13).symm.trans h
    refine am_iconst F (v := (0 : Int32)) dX9_blockers_20 (by decide) ?_
    refine am_goto F (tgt := 33) dX9_blockers_21 (by decide) ?_
    exact am_xiret F hr ⟨Nat.le_of_ble_eq_true rfl, Nat.le_of_ble_eq_true rfl⟩ h dX9_blockers_33
/-! AisleScheduler.makeWay(II)I -/
abbrev rm_X9_makeWay : Room := { frames := 8, cells := 4, slots := 24, locals := 203 }
theorem yn_X9_makeWay : am_yn yX9_makeWay 2 := ⟨⟨by decide +kernel, by decide +kernel⟩, by decide +kernel⟩
def g_X9_makeWay (a1 : Int32) (a2 : Int32) (M : am_M) : Option ((Int32 ⊕ Nat) × am_M) := (am_bx (g_X9_demandRobot a1 M) (fun _ M2 => (am_bx (g_X9_demandCell a2 M2) (fun _ M5 => (am_bx (g_X9_demandOutsideLift a1 M5) (fun _ M8 => (am_b (g_X3_isPlannable a1 a2 M8) (fun v12 M11 => (if v12 = (0 : Int32) then (am_b (g_X3_moveAside a1 a2 M11) (fun v15 M14 => (if (0 : Int32) ≤ v15 then (some ((.inl v15 : Int32 ⊕ Nat), M14)) else (some ((.inr 4 : Int32 ⊕ Nat), M14))))) else (some ((.inr 3 : Int32 ⊕ Nat), M11)))))))))))
set_option maxHeartbeats 4000000 in
set_option maxRecDepth 100000 in
theorem c_X9_makeWay (l : Launch) (hls : l.stackTraces = false) (D : va_G) (E : Nat → ClassId) (z : Nat) (a1 : Int32) (a2 : Int32) (M : am_M) (o : Int32 ⊕ Nat) (M1 : am_M) (h : g_X9_makeWay a1 a2 M = some (o, M1)) : am_Xi l yX9_makeWay cX9_makeWay 4 (some .int) rm_X9_makeWay D E z [.ref (z + 0), .int a1, .int a2] M 4 24 o M1 := by
  unfold g_X9_makeWay at h
  refine am_xof (own := RX9) (by decide +kernel) rfl (by exact Nat.le_of_ble_eq_true rfl) ?_
  intro p e s m args below meth c F hr ht0
  show am_W p l e rm_X9_makeWay s m args below meth c _ 4 D E z 0 0 M 0 [(0, .ref (z + 0)), (1, .int a1), (2, .int a2)] []
  refine am_aload_n F 0 dX9_makeWay_0 rfl rfl ?_
  refine am_iload_n F 1 dX9_makeWay_1 rfl rfl ?_
  obtain ⟨o3, M2, h1, h⟩ := am_bxE h
  refine am_xcallVv F ht0 [.int a1] lyk_0 (by decide) rfl cw_X9_93 (c_X9_demandRobot l hls D E z a1 M o3 M2 h1) yn_X9_demandRobot rfl ⟨Nat.le_of_ble_eq_true rfl, Nat.le_of_ble_eq_true rfl⟩ rfl rfl (Nat.le_of_ble_eq_true rfl) ⟨Nat.le_of_ble_eq_true rfl, Nat.le_of_ble_eq_true rfl⟩ ⟨Nat.le_of_ble_eq_true rfl, Nat.le_of_ble_eq_true rfl⟩ dX9_makeWay_2 rfl h (fun _ _ h => ?_)
  refine am_iload_n F 2 dX9_makeWay_5 rfl rfl ?_
  obtain ⟨o6, M5, h4, h⟩ := am_bxE h
  refine am_xcallSv F ht0 [.int a2] cw_X9_81 rfl (c_X9_demandCell l hls D E z a2 M2 o6 M5 h4) yn_X9_demandCell rfl ⟨Nat.le_of_ble_eq_true rfl, Nat.le_of_ble_eq_true rfl⟩ rfl rfl (Nat.le_of_ble_eq_true rfl) ⟨Nat.le_of_ble_eq_true rfl, Nat.le_of_ble_eq_true rfl⟩ ⟨Nat.le_of_ble_eq_true rfl, Nat.le_of_ble_eq_true rfl⟩ dX9_makeWay_6 rfl h (fun _ _ h => ?_)
  refine am_aload_n F 0 dX9_makeWay_9 rfl rfl ?_
  refine am_iload_n F 1 dX9_makeWay_10 rfl rfl ?_
  obtain ⟨o9, M8, h7, h⟩ := am_bxE h
  refine am_xcallVv F ht0 [.int a1] lyk_0 (by decide) rfl cw_X9_193 (c_X9_demandOutsideLift l hls D E z a1 M5 o9 M8 h7) yn_X9_demandOutsideLift rfl ⟨Nat.le_of_ble_eq_true rfl, Nat.le_of_ble_eq_true rfl⟩ rfl rfl (Nat.le_of_ble_eq_true rfl) ⟨Nat.le_of_ble_eq_true rfl, Nat.le_of_ble_eq_true rfl⟩ ⟨Nat.le_of_ble_eq_true rfl, Nat.le_of_ble_eq_true rfl⟩ dX9_makeWay_11 rfl h (fun _ _ h => ?_)
  refine am_aload_n F 0 dX9_makeWay_14 rfl rfl ?_
  refine gf_X9_27 F lyk_0 dX9_makeWay_15 ?_
  refine am_iload_n F 1 dX9_makeWay_18 rfl rfl ?_
  refine am_iload_n F 2 dX9_makeWay_19 rfl rfl ?_
  obtain ⟨v12, M11, h10, h⟩ := am_bE h
  refine am_callVi F [.int a1, .int a2] lyk_157 (by decide) rfl cw_X9_215 (c_X3_isPlannable l D E z a1 a2 M8 v12 M11 h10) yn_X3_isPlannable rfl ⟨Nat.le_of_ble_eq_true rfl, Nat.le_of_ble_eq_true rfl⟩ rfl rfl (Nat.le_of_ble_eq_true rfl) ⟨Nat.le_of_ble_eq_true rfl, Nat.le_of_ble_eq_true rfl⟩ dX9_makeWay_20 rfl ?_
  refine am_if_eq F (tgt := 36) dX9_makeWay_23 (by decide) (fun c17 => ?_) (fun c17 => ?_)
  · have h := (if_pos c17).symm.trans h
    refine am_aload_n F 0 dX9_makeWay_36 rfl rfl ?_
    refine gf_X9_27 F lyk_0 dX9_makeWay_37 ?_
    refine am_iload_n F 1 dX9_makeWay_40 rfl rfl ?_
    refine am_iload_n F 2 dX9_makeWay_41 rfl rfl ?_
    obtain ⟨v15, M14, h13, h⟩ := am_bE h
    refine am_callVi F [.int a1, .int a2] lyk_157 (by decide) rfl cw_X9_223 (c_X3_moveAside l D E z a1 a2 M11 v15 M14 h13) yn_X3_moveAside rfl ⟨Nat.le_of_ble_eq_true rfl, Nat.le_of_ble_eq_true rfl⟩ rfl rfl (Nat.le_of_ble_eq_true rfl) ⟨Nat.le_of_ble_eq_true rfl, Nat.le_of_ble_eq_true rfl⟩ dX9_makeWay_42 rfl ?_
    refine am_istore_n F [(3, .int v15), (0, .ref (z + 0)), (1, .int a1), (2, .int a2)] dX9_makeWay_45 rfl (by decide) rfl ?_
    refine am_iload_n F 0 dX9_makeWay_46 rfl rfl ?_
    refine am_if_ge F (tgt := 60) dX9_makeWay_47 (by decide) (fun c16 => ?_) (fun c16 => ?_)
    · have h := (if_pos c16).symm.trans h
      refine am_iload_n F 0 dX9_makeWay_60 rfl rfl ?_
      exact am_xiret F hr ⟨Nat.le_of_ble_eq_true rfl, Nat.le_of_ble_eq_true rfl⟩ h dX9_makeWay_61
    · have h := (if_neg c16).symm.trans h
      exact am_throw4 F ht0 hls xt_X9_152_226_156 ⟨Nat.le_of_ble_eq_true rfl, Nat.le_of_ble_eq_true rfl, Nat.le_of_ble_eq_true rfl, Nat.le_of_ble_eq_true rfl⟩ ⟨Nat.le_of_ble_eq_true rfl, Nat.le_of_ble_eq_true rfl⟩ h dX9_makeWay_50 dX9_makeWay_53 dX9_makeWay_54 dX9_makeWay_56 dX9_makeWay_59
  · have h := (if_neg c17).symm.trans h
    exact am_throw F ht0 hls xt_X9_218_220_222 ⟨Nat.le_of_ble_eq_true rfl, Nat.le_of_ble_eq_true rfl, Nat.le_of_ble_eq_true rfl, Nat.le_of_ble_eq_true rfl⟩ ⟨Nat.le_of_ble_eq_true rfl, Nat.le_of_ble_eq_true rfl⟩ h dX9_makeWay_26 dX9_makeWay_29 dX9_makeWay_30 dX9_makeWay_32 dX9_makeWay_35
/-! AisleScheduler.planToCharger(I)I -/
abbrev rm_X9_planToCharger : Room := { frames := 8, cells := 3, slots := 18, locals := 202 }
theorem yn_X9_planToCharger : am_yn yX9_planToCharger 1 := ⟨⟨by decide +kernel, by decide +kernel⟩, by decide +kernel⟩
def g_X9_planToCharger (a1 : Int32) (M : am_M) : Option ((Int32 ⊕ Nat) × am_M) := (am_bx (g_X9_demandRobot a1 M) (fun _ M2 => (am_bx (g_X9_demandOutsideLift a1 M2) (fun _ M5 => (am_b (g_X3_nearestCharger a1 M5) (fun v9 M8 => (if v9 < (0 : Int32) then (some ((.inr 4 : Int32 ⊕ Nat), M8)) else (am_b (g_X3_findFinal a1 v9 M8) (fun v12 M11 => (if v12 = (0 : Int32) then (some ((.inr 4 : Int32 ⊕ Nat), M11)) else (am_b (g_X3_adopt a1 (-1 : Int32) M11) (fun _ M14 => (some ((.inl v9 : Int32 ⊕ Nat), M14))))))))))))))
set_option maxHeartbeats 4000000 in
set_option maxRecDepth 100000 in
theorem c_X9_planToCharger (l : Launch) (hls : l.stackTraces = false) (D : va_G) (E : Nat → ClassId) (z : Nat) (a1 : Int32) (M : am_M) (o : Int32 ⊕ Nat) (M1 : am_M) (h : g_X9_planToCharger a1 M = some (o, M1)) : am_Xi l yX9_planToCharger cX9_planToCharger 3 (some .int) rm_X9_planToCharger D E z [.ref (z + 0), .int a1] M 3 18 o M1 := by
  unfold g_X9_planToCharger at h
  refine am_xof (own := RX9) (by decide +kernel) rfl (by exact Nat.le_of_ble_eq_true rfl) ?_
  intro p e s m args below meth c F hr ht0
  show am_W p l e rm_X9_planToCharger s m args below meth c _ 3 D E z 0 0 M 0 [(0, .ref (z + 0)), (1, .int a1)] []
  refine am_aload_n F 0 dX9_planToCharger_0 rfl rfl ?_
  refine am_iload_n F 1 dX9_planToCharger_1 rfl rfl ?_
  obtain ⟨o3, M2, h1, h⟩ := am_bxE h
  refine am_xcallVv F ht0 [.int a1] lyk_0 (by decide) rfl cw_X9_93 (c_X9_demandRobot l hls D E z a1 M o3 M2 h1) yn_X9_demandRobot rfl ⟨Nat.le_of_ble_eq_true rfl, Nat.le_of_ble_eq_true rfl⟩ rfl rfl (Nat.le_of_ble_eq_true rfl) ⟨Nat.le_of_ble_eq_true rfl, Nat.le_of_ble_eq_true rfl⟩ ⟨Nat.le_of_ble_eq_true rfl, Nat.le_of_ble_eq_true rfl⟩ dX9_planToCharger_2 rfl h (fun _ _ h => ?_)
  refine am_aload_n F 0 dX9_planToCharger_5 rfl rfl ?_
  refine am_iload_n F 1 dX9_planToCharger_6 rfl rfl ?_
  obtain ⟨o6, M5, h4, h⟩ := am_bxE h
  refine am_xcallVv F ht0 [.int a1] lyk_0 (by decide) rfl cw_X9_193 (c_X9_demandOutsideLift l hls D E z a1 M2 o6 M5 h4) yn_X9_demandOutsideLift rfl ⟨Nat.le_of_ble_eq_true rfl, Nat.le_of_ble_eq_true rfl⟩ rfl rfl (Nat.le_of_ble_eq_true rfl) ⟨Nat.le_of_ble_eq_true rfl, Nat.le_of_ble_eq_true rfl⟩ ⟨Nat.le_of_ble_eq_true rfl, Nat.le_of_ble_eq_true rfl⟩ dX9_planToCharger_7 rfl h (fun _ _ h => ?_)
  refine am_aload_n F 0 dX9_planToCharger_10 rfl rfl ?_
  refine gf_X9_27 F lyk_0 dX9_planToCharger_11 ?_
  refine am_iload_n F 1 dX9_planToCharger_14 rfl rfl ?_
  obtain ⟨v9, M8, h7, h⟩ := am_bE h
  refine am_callVi F [.int a1] lyk_157 (by decide) rfl cw_X9_228 (c_X3_nearestCharger l D E z a1 M5 v9 M8 h7) yn_X3_nearestCharger rfl ⟨Nat.le_of_ble_eq_true rfl, Nat.le_of_ble_eq_true rfl⟩ rfl rfl (Nat.le_of_ble_eq_true rfl) ⟨Nat.le_of_ble_eq_true rfl, Nat.le_of_ble_eq_true rfl⟩ dX9_planToCharger_15 rfl ?_
  refine am_istore_n F [(2, .int v9), (0, .ref (z + 0)), (1, .int a1)] dX9_planToCharger_18 rfl (by decide) rfl ?_
  refine am_iload_n F 0 dX9_planToCharger_19 rfl rfl ?_
  refine am_if_lt F (tgt := 35) dX9_planToCharger_20 (by decide) (fun c16 => ?_) (fun c16 => ?_)
  · have h := (if_pos c16).symm.trans h
    exact am_throw4 F ht0 hls xt_X9_152_234_156 ⟨Nat.le_of_ble_eq_true rfl, Nat.le_of_ble_eq_true rfl, Nat.le_of_ble_eq_true rfl, Nat.le_of_ble_eq_true rfl⟩ ⟨Nat.le_of_ble_eq_true rfl, Nat.le_of_ble_eq_true rfl⟩ h dX9_planToCharger_35 dX9_planToCharger_38 dX9_planToCharger_39 dX9_planToCharger_41 dX9_planToCharger_44
  · have h := (if_neg c16).symm.trans h
    refine am_aload_n F 1 dX9_planToCharger_23 rfl rfl ?_
    refine gf_X9_27 F lyk_0 dX9_planToCharger_24 ?_
    refine am_iload_n F 2 dX9_planToCharger_27 rfl rfl ?_
    refine am_iload_n F 0 dX9_planToCharger_28 rfl rfl ?_
    obtain ⟨v12, M11, h10, h⟩ := am_bE h
    refine am_callVi F [.int a1, .int v9] lyk_157 (by decide) rfl cw_X9_231 (c_X3_findFinal l D E z a1 v9 M8 v12 M11 h10) yn_X3_findFinal rfl ⟨Nat.le_of_ble_eq_true rfl, Nat.le_of_ble_eq_true rfl⟩ rfl rfl (Nat.le_of_ble_eq_true rfl) ⟨Nat.le_of_ble_eq_true rfl, Nat.le_of_ble_eq_true rfl⟩ dX9_planToCharger_29 rfl ?_
    refine am_if_ne F (tgt := 45) dX9_planToCharger_32 (by decide) (fun c15 => ?_) (fun c15 => ?_)
    · have h := (if_neg c15).symm.trans h
      refine am_aload_n F 1 dX9_planToCharger_45 rfl rfl ?_
      refine gf_X9_27 F lyk_0 dX9_planToCharger_46 ?_
      refine am_iload_n F 2 dX9_planToCharger_49 rfl rfl ?_
      refine am_iconst F (v := (-1 : Int32)) dX9_planToCharger_50 (by decide) ?_
      obtain ⟨_, M14, h13, h⟩ := am_bE h
      refine am_callVv F [.int a1, .int (-1 : Int32)] lyk_157 (by decide) rfl cw_X9_170 (c_X3_adopt l D E z a1 (-1 : Int32) M11 M14 h13) yn_X3_adopt rfl ⟨Nat.le_of_ble_eq_true rfl, Nat.le_of_ble_eq_true rfl⟩ rfl rfl (Nat.le_of_ble_eq_true rfl) ⟨Nat.le_of_ble_eq_true rfl, Nat.le_of_ble_eq_true rfl⟩ dX9_planToCharger_51 rfl ?_
      refine am_iload_n F 0 dX9_planToCharger_54 rfl rfl ?_
      exact am_xiret F hr ⟨Nat.le_of_ble_eq_true rfl, Nat.le_of_ble_eq_true rfl⟩ h dX9_planToCharger_55
    · have h := (if_pos c15).symm.trans h
      exact am_throw4 F ht0 hls xt_X9_152_234_156 ⟨Nat.le_of_ble_eq_true rfl, Nat.le_of_ble_eq_true rfl, Nat.le_of_ble_eq_true rfl, Nat.le_of_ble_eq_true rfl⟩ ⟨Nat.le_of_ble_eq_true rfl, Nat.le_of_ble_eq_true rfl⟩ h dX9_planToCharger_35 dX9_planToCharger_38 dX9_planToCharger_39 dX9_planToCharger_41 dX9_planToCharger_44
/-! AisleScheduler.addTask(IIII)I -/
abbrev rm_X9_addTask : Room := { frames := 7, cells := 3, slots := 18, locals := 120 }
theorem yn_X9_addTask : am_yn yX9_addTask 4 := ⟨⟨by decide +kernel, by decide +kernel⟩, by decide +kernel⟩
def g_X9_addTask (a1 : Int32) (a2 : Int32) (a3 : Int32) (a4 : Int32) (M : am_M) : Option ((Int32 ⊕ Nat) × am_M) := (am_bx (g_X9_demandCell a1 M) (fun _ M2 => (am_bx (g_X9_demandCell a2 M2) (fun _ M5 => (if a1 = a2 then (some ((.inr 2 : Int32 ⊕ Nat), M5)) else (if a3 < (0 : Int32) then (some ((.inr 2 : Int32 ⊕ Nat), M5)) else (if (1000 : Int32) < a4 then (some ((.inr 2 : Int32 ⊕ Nat), M5)) else (if a3 ≤ a4 then (if (am_g M5 1 3) < (12 : Int32) then (am_b (g_X8_taskOf 1 (am_g M5 1 3) M5) (fun v9 M8 => (am_b (g_X7_begin v9 a1 a2 a3 a4 (am_g M8 1 4) M8) (fun _ M11 => (some ((.inl ((am_g (am_s M11 1 3 ((am_g M11 1 3) + (1 : Int32))) 1 3) - (1 : Int32)) : Int32 ⊕ Nat), (am_s M11 1 3 ((am_g M11 1 3) + (1 : Int32))))))))) else (some ((.inr 3 : Int32 ⊕ Nat), M5))) else (some ((.inr 2 : Int32 ⊕ Nat), M5))))))))))
set_option maxHeartbeats 4000000 in
set_option maxRecDepth 100000 in
theorem c_X9_addTask (l : Launch) (hls : l.stackTraces = false) (D : va_G) (E : Nat → ClassId) (z : Nat) (a1 : Int32) (a2 : Int32) (a3 : Int32) (a4 : Int32) (M : am_M) (o : Int32 ⊕ Nat) (M1 : am_M) (h : g_X9_addTask a1 a2 a3 a4 M = some (o, M1)) : am_Xi l yX9_addTask cX9_addTask 5 (some .int) rm_X9_addTask D E z [.ref (z + 0), .int a1, .int a2, .int a3, .int a4] M 3 18 o M1 := by
  unfold g_X9_addTask at h
  refine am_xof (own := RX9) (by decide +kernel) rfl (by exact Nat.le_of_ble_eq_true rfl) ?_
  intro p e s m args below meth c F hr ht0
  show am_W p l e rm_X9_addTask s m args below meth c _ 5 D E z 0 0 M 0 [(0, .ref (z + 0)), (1, .int a1), (2, .int a2), (3, .int a3), (4, .int a4)] []
  refine am_iload_n F 1 dX9_addTask_0 rfl rfl ?_
  obtain ⟨o3, M2, h1, h⟩ := am_bxE h
  refine am_xcallSv F ht0 [.int a1] cw_X9_81 rfl (c_X9_demandCell l hls D E z a1 M o3 M2 h1) yn_X9_demandCell rfl ⟨Nat.le_of_ble_eq_true rfl, Nat.le_of_ble_eq_true rfl⟩ rfl rfl (Nat.le_of_ble_eq_true rfl) ⟨Nat.le_of_ble_eq_true rfl, Nat.le_of_ble_eq_true rfl⟩ ⟨Nat.le_of_ble_eq_true rfl, Nat.le_of_ble_eq_true rfl⟩ dX9_addTask_1 rfl h (fun _ _ h => ?_)
  refine am_iload_n F 2 dX9_addTask_4 rfl rfl ?_
  obtain ⟨o6, M5, h4, h⟩ := am_bxE h
  refine am_xcallSv F ht0 [.int a2] cw_X9_81 rfl (c_X9_demandCell l hls D E z a2 M2 o6 M5 h4) yn_X9_demandCell rfl ⟨Nat.le_of_ble_eq_true rfl, Nat.le_of_ble_eq_true rfl⟩ rfl rfl (Nat.le_of_ble_eq_true rfl) ⟨Nat.le_of_ble_eq_true rfl, Nat.le_of_ble_eq_true rfl⟩ ⟨Nat.le_of_ble_eq_true rfl, Nat.le_of_ble_eq_true rfl⟩ dX9_addTask_5 rfl h (fun _ _ h => ?_)
  refine am_iload_n F 1 dX9_addTask_8 rfl rfl ?_
  refine am_iload_n F 2 dX9_addTask_9 rfl rfl ?_
  refine am_icmp_eq F (tgt := 31) dX9_addTask_10 (by decide) (fun c16 => ?_) (fun c16 => ?_)
  · have h := (if_pos c16).symm.trans h
    exact am_throw F ht0 hls xt_X9_132_236_136 ⟨Nat.le_of_ble_eq_true rfl, Nat.le_of_ble_eq_true rfl, Nat.le_of_ble_eq_true rfl, Nat.le_of_ble_eq_true rfl⟩ ⟨Nat.le_of_ble_eq_true rfl, Nat.le_of_ble_eq_true rfl⟩ h dX9_addTask_31 dX9_addTask_34 dX9_addTask_35 dX9_addTask_37 dX9_addTask_40
  · have h := (if_neg c16).symm.trans h
    refine am_iload_n F 3 dX9_addTask_13 rfl rfl ?_
    refine am_if_lt F (tgt := 31) dX9_addTask_14 (by decide) (fun c15 => ?_) (fun c15 => ?_)
    · have h := (if_pos c15).symm.trans h
      exact am_throw F ht0 hls xt_X9_132_236_136 ⟨Nat.le_of_ble_eq_true rfl, Nat.le_of_ble_eq_true rfl, Nat.le_of_ble_eq_true rfl, Nat.le_of_ble_eq_true rfl⟩ ⟨Nat.le_of_ble_eq_true rfl, Nat.le_of_ble_eq_true rfl⟩ h dX9_addTask_31 dX9_addTask_34 dX9_addTask_35 dX9_addTask_37 dX9_addTask_40
    · have h := (if_neg c15).symm.trans h
      refine am_iload F 4 dX9_addTask_17 rfl ?_
      refine am_sipush F (v := (1000 : Int32)) dX9_addTask_19 (by decide) ?_
      refine am_icmp_gt F (tgt := 31) dX9_addTask_22 (by decide) (fun c14 => ?_) (fun c14 => ?_)
      · have h := (if_pos c14).symm.trans h
        exact am_throw F ht0 hls xt_X9_132_236_136 ⟨Nat.le_of_ble_eq_true rfl, Nat.le_of_ble_eq_true rfl, Nat.le_of_ble_eq_true rfl, Nat.le_of_ble_eq_true rfl⟩ ⟨Nat.le_of_ble_eq_true rfl, Nat.le_of_ble_eq_true rfl⟩ h dX9_addTask_31 dX9_addTask_34 dX9_addTask_35 dX9_addTask_37 dX9_addTask_40
      · have h := (if_neg c14).symm.trans h
        refine am_iload_n F 3 dX9_addTask_25 rfl rfl ?_
        refine am_iload F 4 dX9_addTask_26 rfl ?_
        refine am_icmp_le F (tgt := 41) dX9_addTask_28 (by decide) (fun c13 => ?_) (fun c13 => ?_)
        · have h := (if_pos c13).symm.trans h
          refine am_aload_n F 0 dX9_addTask_41 rfl rfl ?_
          refine gf_X9_12 F lyk_0 dX9_addTask_42 ?_
          refine gf_X9_139 F lyk_1 dX9_addTask_45 ?_
          refine am_bipush F (v := (12 : Int32)) dX9_addTask_48 (by decide) ?_
          refine am_icmp_lt F (tgt := 63) dX9_addTask_50 (by decide) (fun c12 => ?_) (fun c12 => ?_)
          · have h := (if_pos c12).symm.trans h
            refine am_aload_n F 0 dX9_addTask_63 rfl rfl ?_
            refine gf_X9_12 F lyk_0 dX9_addTask_64 ?_
            refine am_aload_n F 0 dX9_addTask_67 rfl rfl ?_
            refine gf_X9_12 F lyk_0 dX9_addTask_68 ?_
            refine gf_X9_139 F lyk_1 dX9_addTask_71 ?_
            obtain ⟨v9, M8, h7, h⟩ := am_bE h
            refine am_callVr F [.int (am_g M5 1 3)] lyk_1 (by decide) rfl cw_X9_240 (c_X8_taskOf l D E z 1 lyk_1 (am_g M5 1 3) M5 v9 M8 h7) yn_X8_taskOf rfl ⟨Nat.le_of_ble_eq_true rfl, Nat.le_of_ble_eq_true rfl⟩ rfl rfl (Nat.le_of_ble_eq_true rfl) ⟨Nat.le_of_ble_eq_true rfl, Nat.le_of_ble_eq_true rfl⟩ dX9_addTask_74 rfl ?_
            refine am_iload_n F 1 dX9_addTask_77 rfl rfl ?_
            refine am_iload_n F 2 dX9_addTask_78 rfl rfl ?_
            refine am_iload_n F 3 dX9_addTask_79 rfl rfl ?_
            refine am_iload F 4 dX9_addTask_80 rfl ?_
            refine am_aload_n F 0 dX9_addTask_82 rfl rfl ?_
            refine gf_X9_12 F lyk_0 dX9_addTask_83 ?_
            refine gf_X9_106 F lyk_1 dX9_addTask_86 ?_
            obtain ⟨_, M11, h10, h⟩ := am_bE h
            refine am_callVv F [.int a1, .int a2, .int a3, .int a4, .int (am_g M8 1 4)] (q_X8_taskOf 1 lyk_1 (am_g M5 1 3) M5 v9 M8 h7) (by decide) rfl cw_X9_244 (c_X7_begin l D E z v9 (q_X8_taskOf 1 lyk_1 (am_g M5 1 3) M5 v9 M8 h7) a1 a2 a3 a4 (am_g M8 1 4) M8 M11 h10) yn_X7_begin rfl ⟨Nat.le_of_ble_eq_true rfl, Nat.le_of_ble_eq_true rfl⟩ rfl rfl (Nat.le_of_ble_eq_true rfl) ⟨Nat.le_of_ble_eq_true rfl, Nat.le_of_ble_eq_true rfl⟩ dX9_addTask_89 rfl ?_
            refine am_aload_n F 0 dX9_addTask_92 rfl rfl ?_
            refine gf_X9_12 F lyk_0 dX9_addTask_93 ?_
            refine am_dup F dX9_addTask_96 rfl ?_
            refine gf_X9_139 F lyk_1 dX9_addTask_97 ?_
            refine am_iconst F (v := (1 : Int32)) dX9_addTask_100 (by decide) ?_
            refine am_iadd F dX9_addTask_101 ?_
            refine pf_X9_139 F lyk_1 dX9_addTask_102 ?_
            refine am_aload_n F 0 dX9_addTask_105 rfl rfl ?_
            refine gf_X9_12 F lyk_0 dX9_addTask_106 ?_
            refine gf_X9_139 F lyk_1 dX9_addTask_109 ?_
            refine am_iconst F (v := (1 : Int32)) dX9_addTask_112 (by decide) ?_
            refine am_isub F dX9_addTask_113 ?_
            exact am_xiret F hr ⟨Nat.le_of_ble_eq_true rfl, Nat.le_of_ble_eq_true rfl⟩ h dX9_addTask_114
          · have h := (if_neg c12).symm.trans h
            exact am_throw F ht0 hls xt_X9_218_238_222 ⟨Nat.le_of_ble_eq_true rfl, Nat.le_of_ble_eq_true rfl, Nat.le_of_ble_eq_true rfl, Nat.le_of_ble_eq_true rfl⟩ ⟨Nat.le_of_ble_eq_true rfl, Nat.le_of_ble_eq_true rfl⟩ h dX9_addTask_53 dX9_addTask_56 dX9_addTask_57 dX9_addTask_59 dX9_addTask_62
        · have h := (if_neg c13).symm.trans h
          exact am_throw F ht0 hls xt_X9_132_236_136 ⟨Nat.le_of_ble_eq_true rfl, Nat.le_of_ble_eq_true rfl, Nat.le_of_ble_eq_true rfl, Nat.le_of_ble_eq_true rfl⟩ ⟨Nat.le_of_ble_eq_true rfl, Nat.le_of_ble_eq_true rfl⟩ h dX9_addTask_31 dX9_addTask_34 dX9_addTask_35 dX9_addTask_37 dX9_addTask_40
/-! AisleScheduler.demandTask(I)V -/
abbrev rm_X9_demandTask : Room := { frames := 6, cells := 1, slots := 6, locals := 100 }
theorem yn_X9_demandTask : am_yn yX9_demandTask 1 := ⟨⟨by decide +kernel, by decide +kernel⟩, by decide +kernel⟩
def g_X9_demandTask (a1 : Int32) (M : am_M) : Option ((Unit ⊕ Nat) × am_M) := (if a1 < (0 : Int32) then (some ((.inr 1 : Unit ⊕ Nat), M)) else (if a1 < (am_g M 1 3) then (some ((.inl () : Unit ⊕ Nat), M)) else (some ((.inr 1 : Unit ⊕ Nat), M))))
set_option maxHeartbeats 4000000 in
set_option maxRecDepth 100000 in
theorem c_X9_demandTask (l : Launch) (hls : l.stackTraces = false) (D : va_G) (E : Nat → ClassId) (z : Nat) (a1 : Int32) (M : am_M) (o : Unit ⊕ Nat) (M1 : am_M) (h : g_X9_demandTask a1 M = some (o, M1)) : am_Xv l yX9_demandTask cX9_demandTask 2 none rm_X9_demandTask D E z [.ref (z + 0), .int a1] M 1 6 o M1 := by
  unfold g_X9_demandTask at h
  refine am_xof (own := RX9) (by decide +kernel) rfl (by exact Nat.le_of_ble_eq_true rfl) ?_
  intro p e s m args below meth c F hr ht0
  show am_W p l e rm_X9_demandTask s m args below meth c _ 2 D E z 0 0 M 0 [(0, .ref (z + 0)), (1, .int a1)] []
  refine am_iload_n F 1 dX9_demandTask_0 rfl rfl ?_
  refine am_if_lt F (tgt := 15) dX9_demandTask_1 (by decide) (fun c2 => ?_) (fun c2 => ?_)
  · have h := (if_pos c2).symm.trans h
    exact am_throwW F ht0 hls xt_X9_395_409_399 ⟨Nat.le_of_ble_eq_true rfl, Nat.le_of_ble_eq_true rfl, Nat.le_of_ble_eq_true rfl, Nat.le_of_ble_eq_true rfl⟩ ⟨Nat.le_of_ble_eq_true rfl, Nat.le_of_ble_eq_true rfl⟩ h dX9_demandTask_15 dX9_demandTask_18 dX9_demandTask_19 dX9_demandTask_22 dX9_demandTask_25
  · have h := (if_neg c2).symm.trans h
    refine am_iload_n F 1 dX9_demandTask_4 rfl rfl ?_
    refine am_aload_n F 0 dX9_demandTask_5 rfl rfl ?_
    refine gf_X9_12 F lyk_0 dX9_demandTask_6 ?_
    refine gf_X9_139 F lyk_1 dX9_demandTask_9 ?_
    refine am_icmp_lt F (tgt := 26) dX9_demandTask_12 (by decide) (fun c1 => ?_) (fun c1 => ?_)
    · have h := (if_pos c1).symm.trans h
      exact am_xvret F hr ⟨Nat.le_of_ble_eq_true rfl, Nat.le_of_ble_eq_true rfl⟩ h dX9_demandTask_26
    · have h := (if_neg c1).symm.trans h
      exact am_throwW F ht0 hls xt_X9_395_409_399 ⟨Nat.le_of_ble_eq_true rfl, Nat.le_of_ble_eq_true rfl, Nat.le_of_ble_eq_true rfl, Nat.le_of_ble_eq_true rfl⟩ ⟨Nat.le_of_ble_eq_true rfl, Nat.le_of_ble_eq_true rfl⟩ h dX9_demandTask_15 dX9_demandTask_18 dX9_demandTask_19 dX9_demandTask_22 dX9_demandTask_25
/-! AisleScheduler.demandServable(I)V -/
abbrev rm_X9_demandServable : Room := { frames := 6, cells := 1, slots := 6, locals := 100 }
theorem yn_X9_demandServable : am_yn yX9_demandServable 1 := ⟨⟨by decide +kernel, by decide +kernel⟩, by decide +kernel⟩
def g_X9_demandServable (a1 : Int32) (M : am_M) : Option ((Unit ⊕ Nat) × am_M) := (am_b (g_X8_taskOf 1 a1 M) (fun v3 M2 => (if (am_g M2 v3 5) = (1 : Int32) then (some ((.inr 3 : Unit ⊕ Nat), M2)) else (if (am_g M2 v3 5) = (2 : Int32) then (some ((.inr 3 : Unit ⊕ Nat), M2)) else (some ((.inl () : Unit ⊕ Nat), M2))))))
set_option maxHeartbeats 4000000 in
set_option maxRecDepth 100000 in
theorem c_X9_demandServable (l : Launch) (hls : l.stackTraces = false) (D : va_G) (E : Nat → ClassId) (z : Nat) (a1 : Int32) (M : am_M) (o : Unit ⊕ Nat) (M1 : am_M) (h : g_X9_demandServable a1 M = some (o, M1)) : am_Xv l yX9_demandServable cX9_demandServable 3 none rm_X9_demandServable D E z [.ref (z + 0), .int a1] M 1 6 o M1 := by
  unfold g_X9_demandServable at h
  refine am_xof (own := RX9) (by decide +kernel) rfl (by exact Nat.le_of_ble_eq_true rfl) ?_
  intro p e s m args below meth c F hr ht0
  show am_W p l e rm_X9_demandServable s m args below meth c _ 3 D E z 0 0 M 0 [(0, .ref (z + 0)), (1, .int a1)] []
  refine am_aload_n F 0 dX9_demandServable_0 rfl rfl ?_
  refine gf_X9_12 F lyk_0 dX9_demandServable_1 ?_
  refine am_iload_n F 1 dX9_demandServable_4 rfl rfl ?_
  obtain ⟨v3, M2, h1, h⟩ := am_bE h
  refine am_callVr F [.int a1] lyk_1 (by decide) rfl cw_X9_240 (c_X8_taskOf l D E z 1 lyk_1 a1 M v3 M2 h1) yn_X8_taskOf rfl ⟨Nat.le_of_ble_eq_true rfl, Nat.le_of_ble_eq_true rfl⟩ rfl rfl (Nat.le_of_ble_eq_true rfl) ⟨Nat.le_of_ble_eq_true rfl, Nat.le_of_ble_eq_true rfl⟩ dX9_demandServable_5 rfl ?_
  refine gf_X9_265 F (q_X8_taskOf 1 lyk_1 a1 M v3 M2 h1) dX9_demandServable_8 ?_
  refine am_istore_n F [(2, .int (am_g M2 v3 5)), (0, .ref (z + 0)), (1, .int a1)] dX9_demandServable_11 rfl (by decide) rfl ?_
  refine am_iload_n F 0 dX9_demandServable_12 rfl rfl ?_
  refine am_iconst F (v := (1 : Int32)) dX9_demandServable_13 (by decide) ?_
  refine am_icmp_eq F (tgt := 22) dX9_demandServable_14 (by decide) (fun c5 => ?_) (fun c5 => ?_)
  · have h := (if_pos c5).symm.trans h
    exact am_throwW F ht0 hls xt_X9_218_411_222 ⟨Nat.le_of_ble_eq_true rfl, Nat.le_of_ble_eq_true rfl, Nat.le_of_ble_eq_true rfl, Nat.le_of_ble_eq_true rfl⟩ ⟨Nat.le_of_ble_eq_true rfl, Nat.le_of_ble_eq_true rfl⟩ h dX9_demandServable_22 dX9_demandServable_25 dX9_demandServable_26 dX9_demandServable_29 dX9_demandServable_32
  · have h := (if_neg c5).symm.trans h
    refine am_iload_n F 0 dX9_demandServable_17 rfl rfl ?_
    refine am_iconst F (v := (2 : Int32)) dX9_demandServable_18 (by decide) ?_
    refine am_icmp_ne F (tgt := 33) dX9_demandServable_19 (by decide) (fun c4 => ?_) (fun c4 => ?_)
    · have h := (if_neg c4).symm.trans h
      exact am_xvret F hr ⟨Nat.le_of_ble_eq_true rfl, Nat.le_of_ble_eq_true rfl⟩ h dX9_demandServable_33
    · have h := (if_pos c4).symm.trans h
      exact am_throwW F ht0 hls xt_X9_218_411_222 ⟨Nat.le_of_ble_eq_true rfl, Nat.le_of_ble_eq_true rfl, Nat.le_of_ble_eq_true rfl, Nat.le_of_ble_eq_true rfl⟩ ⟨Nat.le_of_ble_eq_true rfl, Nat.le_of_ble_eq_true rfl⟩ h dX9_demandServable_22 dX9_demandServable_25 dX9_demandServable_26 dX9_demandServable_29 dX9_demandServable_32
/-! AisleScheduler.serve(II)I -/
abbrev rm_X9_serve : Room := { frames := 7, cells := 3, slots := 18, locals := 179 }
theorem yn_X9_serve : am_yn yX9_serve 2 := ⟨⟨by decide +kernel, by decide +kernel⟩, by decide +kernel⟩
def g_X9_serve (a1 : Int32) (a2 : Int32) (M : am_M) : Option ((Int32 ⊕ Nat) × am_M) := (am_bx (g_X9_demandTask a1 M) (fun _ M2 => (am_bx (g_X9_demandRobot a2 M2) (fun _ M5 => (am_bx (g_X9_demandServable a1 M5) (fun _ M8 => (am_b (g_X3_letServe a1 a2 M8) (fun v12 M11 => (some ((.inl v12 : Int32 ⊕ Nat), M11))))))))))
set_option maxHeartbeats 4000000 in
set_option maxRecDepth 100000 in
theorem c_X9_serve (l : Launch) (hls : l.stackTraces = false) (D : va_G) (E : Nat → ClassId) (z : Nat) (a1 : Int32) (a2 : Int32) (M : am_M) (o : Int32 ⊕ Nat) (M1 : am_M) (h : g_X9_serve a1 a2 M = some (o, M1)) : am_Xi l yX9_serve cX9_serve 3 (some .int) rm_X9_serve D E z [.ref (z + 0), .int a1, .int a2] M 3 18 o M1 := by
  unfold g_X9_serve at h
  refine am_xof (own := RX9) (by decide +kernel) rfl (by exact Nat.le_of_ble_eq_true rfl) ?_
  intro p e s m args below meth c F hr ht0
  show am_W p l e rm_X9_serve s m args below meth c _ 3 D E z 0 0 M 0 [(0, .ref (z + 0)), (1, .int a1), (2, .int a2)] []
  refine am_aload_n F 0 dX9_serve_0 rfl rfl ?_
  refine am_iload_n F 1 dX9_serve_1 rfl rfl ?_
  obtain ⟨o3, M2, h1, h⟩ := am_bxE h
  refine am_xcallVv F ht0 [.int a1] lyk_0 (by decide) rfl cw_X9_250 (c_X9_demandTask l hls D E z a1 M o3 M2 h1) yn_X9_demandTask rfl ⟨Nat.le_of_ble_eq_true rfl, Nat.le_of_ble_eq_true rfl⟩ rfl rfl (Nat.le_of_ble_eq_true rfl) ⟨Nat.le_of_ble_eq_true rfl, Nat.le_of_ble_eq_true rfl⟩ ⟨Nat.le_of_ble_eq_true rfl, Nat.le_of_ble_eq_true rfl⟩ dX9_serve_2 rfl h (fun _ _ h => ?_)
  refine am_aload_n F 0 dX9_serve_5 rfl rfl ?_
  refine am_iload_n F 2 dX9_serve_6 rfl rfl ?_
  obtain ⟨o6, M5, h4, h⟩ := am_bxE h
  refine am_xcallVv F ht0 [.int a2] lyk_0 (by decide) rfl cw_X9_93 (c_X9_demandRobot l hls D E z a2 M2 o6 M5 h4) yn_X9_demandRobot rfl ⟨Nat.le_of_ble_eq_true rfl, Nat.le_of_ble_eq_true rfl⟩ rfl rfl (Nat.le_of_ble_eq_true rfl) ⟨Nat.le_of_ble_eq_true rfl, Nat.le_of_ble_eq_true rfl⟩ ⟨Nat.le_of_ble_eq_true rfl, Nat.le_of_ble_eq_true rfl⟩ dX9_serve_7 rfl h (fun _ _ h => ?_)
  refine am_aload_n F 0 dX9_serve_10 rfl rfl ?_
  refine am_iload_n F 1 dX9_serve_11 rfl rfl ?_
  obtain ⟨o9, M8, h7, h⟩ := am_bxE h
  refine am_xcallVv F ht0 [.int a1] lyk_0 (by decide) rfl cw_X9_253 (c_X9_demandServable l hls D E z a1 M5 o9 M8 h7) yn_X9_demandServable rfl ⟨Nat.le_of_ble_eq_true rfl, Nat.le_of_ble_eq_true rfl⟩ rfl rfl (Nat.le_of_ble_eq_true rfl) ⟨Nat.le_of_ble_eq_true rfl, Nat.le_of_ble_eq_true rfl⟩ ⟨Nat.le_of_ble_eq_true rfl, Nat.le_of_ble_eq_true rfl⟩ dX9_serve_12 rfl h (fun _ _ h => ?_)
  refine am_aload_n F 0 dX9_serve_15 rfl rfl ?_
  refine gf_X9_27 F lyk_0 dX9_serve_16 ?_
  refine am_iload_n F 1 dX9_serve_19 rfl rfl ?_
  refine am_iload_n F 2 dX9_serve_20 rfl rfl ?_
  obtain ⟨v12, M11, h10, h⟩ := am_bE h
  refine am_callVi F [.int a1, .int a2] lyk_157 (by decide) rfl cw_X9_256 (c_X3_letServe l D E z a1 a2 M8 v12 M11 h10) yn_X3_letServe rfl ⟨Nat.le_of_ble_eq_true rfl, Nat.le_of_ble_eq_true rfl⟩ rfl rfl (Nat.le_of_ble_eq_true rfl) ⟨Nat.le_of_ble_eq_true rfl, Nat.le_of_ble_eq_true rfl⟩ dX9_serve_21 rfl ?_
  exact am_xiret F hr ⟨Nat.le_of_ble_eq_true rfl, Nat.le_of_ble_eq_true rfl⟩ h dX9_serve_24
/-! AisleScheduler.bestRobot(I)I -/
abbrev rm_X9_bestRobot : Room := { frames := 7, cells := 3, slots := 18, locals := 182 }
theorem yn_X9_bestRobot : am_yn yX9_bestRobot 1 := ⟨⟨by decide +kernel, by decide +kernel⟩, by decide +kernel⟩
def g_X9_bestRobot (a1 : Int32) (M : am_M) : Option ((Int32 ⊕ Nat) × am_M) := (am_bx (g_X9_demandTask a1 M) (fun _ M2 => (am_bx (g_X9_demandServable a1 M2) (fun _ M5 => (am_b (g_X3_bestFor a1 (0 : Int32) M5) (fun v9 M8 => (if (0 : Int32) ≤ v9 then (some ((.inl v9 : Int32 ⊕ Nat), M8)) else (some ((.inr 4 : Int32 ⊕ Nat), M8)))))))))
set_option maxHeartbeats 4000000 in
set_option maxRecDepth 100000 in
theorem c_X9_bestRobot (l : Launch) (hls : l.stackTraces = false) (D : va_G) (E : Nat → ClassId) (z : Nat) (a1 : Int32) (M : am_M) (o : Int32 ⊕ Nat) (M1 : am_M) (h : g_X9_bestRobot a1 M = some (o, M1)) : am_Xi l yX9_bestRobot cX9_bestRobot 3 (some .int) rm_X9_bestRobot D E z [.ref (z + 0), .int a1] M 3 18 o M1 := by
  unfold g_X9_bestRobot at h
  refine am_xof (own := RX9) (by decide +kernel) rfl (by exact Nat.le_of_ble_eq_true rfl) ?_
  intro p e s m args below meth c F hr ht0
  show am_W p l e rm_X9_bestRobot s m args below meth c _ 3 D E z 0 0 M 0 [(0, .ref (z + 0)), (1, .int a1)] []
  refine am_aload_n F 0 dX9_bestRobot_0 rfl rfl ?_
  refine am_iload_n F 1 dX9_bestRobot_1 rfl rfl ?_
  obtain ⟨o3, M2, h1, h⟩ := am_bxE h
  refine am_xcallVv F ht0 [.int a1] lyk_0 (by decide) rfl cw_X9_250 (c_X9_demandTask l hls D E z a1 M o3 M2 h1) yn_X9_demandTask rfl ⟨Nat.le_of_ble_eq_true rfl, Nat.le_of_ble_eq_true rfl⟩ rfl rfl (Nat.le_of_ble_eq_true rfl) ⟨Nat.le_of_ble_eq_true rfl, Nat.le_of_ble_eq_true rfl⟩ ⟨Nat.le_of_ble_eq_true rfl, Nat.le_of_ble_eq_true rfl⟩ dX9_bestRobot_2 rfl h (fun _ _ h => ?_)
  refine am_aload_n F 0 dX9_bestRobot_5 rfl rfl ?_
  refine am_iload_n F 1 dX9_bestRobot_6 rfl rfl ?_
  obtain ⟨o6, M5, h4, h⟩ := am_bxE h
  refine am_xcallVv F ht0 [.int a1] lyk_0 (by decide) rfl cw_X9_253 (c_X9_demandServable l hls D E z a1 M2 o6 M5 h4) yn_X9_demandServable rfl ⟨Nat.le_of_ble_eq_true rfl, Nat.le_of_ble_eq_true rfl⟩ rfl rfl (Nat.le_of_ble_eq_true rfl) ⟨Nat.le_of_ble_eq_true rfl, Nat.le_of_ble_eq_true rfl⟩ ⟨Nat.le_of_ble_eq_true rfl, Nat.le_of_ble_eq_true rfl⟩ dX9_bestRobot_7 rfl h (fun _ _ h => ?_)
  refine am_aload_n F 0 dX9_bestRobot_10 rfl rfl ?_
  refine gf_X9_27 F lyk_0 dX9_bestRobot_11 ?_
  refine am_iload_n F 1 dX9_bestRobot_14 rfl rfl ?_
  refine am_iconst F (v := (0 : Int32)) dX9_bestRobot_15 (by decide) ?_
  obtain ⟨v9, M8, h7, h⟩ := am_bE h
  refine am_callVi F [.int a1, .int (0 : Int32)] lyk_157 (by decide) rfl cw_X9_259 (c_X3_bestFor l D E z a1 (0 : Int32) M5 v9 M8 h7) yn_X3_bestFor rfl ⟨Nat.le_of_ble_eq_true rfl, Nat.le_of_ble_eq_true rfl⟩ rfl rfl (Nat.le_of_ble_eq_true rfl) ⟨Nat.le_of_ble_eq_true rfl, Nat.le_of_ble_eq_true rfl⟩ dX9_bestRobot_16 rfl ?_
  refine am_istore_n F [(2, .int v9), (0, .ref (z + 0)), (1, .int a1)] dX9_bestRobot_19 rfl (by decide) rfl ?_
  refine am_iload_n F 0 dX9_bestRobot_20 rfl rfl ?_
  refine am_if_ge F (tgt := 35) dX9_bestRobot_21 (by decide) (fun c10 => ?_) (fun c10 => ?_)
  · have h := (if_pos c10).symm.trans h
    refine am_iload_n F 0 dX9_bestRobot_35 rfl rfl ?_
    exact am_xiret F hr ⟨Nat.le_of_ble_eq_true rfl, Nat.le_of_ble_eq_true rfl⟩ h dX9_bestRobot_36
  · have h := (if_neg c10).symm.trans h
    exact am_throw4W F ht0 hls xt_X9_152_263_156 ⟨Nat.le_of_ble_eq_true rfl, Nat.le_of_ble_eq_true rfl, Nat.le_of_ble_eq_true rfl, Nat.le_of_ble_eq_true rfl⟩ ⟨Nat.le_of_ble_eq_true rfl, Nat.le_of_ble_eq_true rfl⟩ h dX9_bestRobot_24 dX9_bestRobot_27 dX9_bestRobot_28 dX9_bestRobot_31 dX9_bestRobot_34
/-! AisleScheduler.task(II)I -/
abbrev rm_X9_task : Room := { frames := 7, cells := 2, slots := 12, locals := 121 }
theorem yn_X9_task : am_yn yX9_task 2 := ⟨⟨by decide +kernel, by decide +kernel⟩, by decide +kernel⟩
def g_X9_task (a1 : Int32) (a2 : Int32) (M : am_M) : Option ((Int32 ⊕ Nat) × am_M) := (am_bx (g_X9_demandTask a1 M) (fun _ M2 => (am_b (g_X8_taskOf 1 a1 M2) (fun v6 M5 => (if a2 = (0 : Int32) then (some ((.inl (am_g M5 v6 5) : Int32 ⊕ Nat), M5)) else (if a2 = (1 : Int32) then (some ((.inl (am_g M5 v6 6) : Int32 ⊕ Nat), M5)) else (if a2 = (2 : Int32) then (some ((.inl (am_g M5 v6 7) : Int32 ⊕ Nat), M5)) else (if a2 = (3 : Int32) then (some ((.inl (am_g M5 v6 8) : Int32 ⊕ Nat), M5)) else (if a2 = (4 : Int32) then (some ((.inl (am_g M5 v6 0) : Int32 ⊕ Nat), M5)) else (if a2 = (5 : Int32) then (some ((.inl (am_g M5 v6 1) : Int32 ⊕ Nat), M5)) else (if a2 = (6 : Int32) then (some ((.inl (am_g M5 v6 2) : Int32 ⊕ Nat), M5)) else (if a2 = (7 : Int32) then (some ((.inl (am_g M5 v6 3) : Int32 ⊕ Nat), M5)) else (some ((.inr 2 : Int32 ⊕ Nat), M5))))))))))))))
set_option maxHeartbeats 4000000 in
set_option maxRecDepth 100000 in
theorem c_X9_task (l : Launch) (hls : l.stackTraces = false) (D : va_G) (E : Nat → ClassId) (z : Nat) (a1 : Int32) (a2 : Int32) (M : am_M) (o : Int32 ⊕ Nat) (M1 : am_M) (h : g_X9_task a1 a2 M = some (o, M1)) : am_Xi l yX9_task cX9_task 4 (some .int) rm_X9_task D E z [.ref (z + 0), .int a1, .int a2] M 2 12 o M1 := by
  unfold g_X9_task at h
  refine am_xof (own := RX9) (by decide +kernel) rfl (by exact Nat.le_of_ble_eq_true rfl) ?_
  intro p e s m args below meth c F hr ht0
  show am_W p l e rm_X9_task s m args below meth c _ 4 D E z 0 0 M 0 [(0, .ref (z + 0)), (1, .int a1), (2, .int a2)] []
  refine am_aload_n F 0 dX9_task_0 rfl rfl ?_
  refine am_iload_n F 1 dX9_task_1 rfl rfl ?_
  obtain ⟨o3, M2, h1, h⟩ := am_bxE h
  refine am_xcallVv F ht0 [.int a1] lyk_0 (by decide) rfl cw_X9_250 (c_X9_demandTask l hls D E z a1 M o3 M2 h1) yn_X9_demandTask rfl ⟨Nat.le_of_ble_eq_true rfl, Nat.le_of_ble_eq_true rfl⟩ rfl rfl (Nat.le_of_ble_eq_true rfl) ⟨Nat.le_of_ble_eq_true rfl, Nat.le_of_ble_eq_true rfl⟩ ⟨Nat.le_of_ble_eq_true rfl, Nat.le_of_ble_eq_true rfl⟩ dX9_task_2 rfl h (fun _ _ h => ?_)
  refine am_aload_n F 0 dX9_task_5 rfl rfl ?_
  refine gf_X9_12 F lyk_0 dX9_task_6 ?_
  refine am_iload_n F 1 dX9_task_9 rfl rfl ?_
  obtain ⟨v6, M5, h4, h⟩ := am_bE h
  refine am_callVr F [.int a1] lyk_1 (by decide) rfl cw_X9_240 (c_X8_taskOf l D E z 1 lyk_1 a1 M2 v6 M5 h4) yn_X8_taskOf rfl ⟨Nat.le_of_ble_eq_true rfl, Nat.le_of_ble_eq_true rfl⟩ rfl rfl (Nat.le_of_ble_eq_true rfl) ⟨Nat.le_of_ble_eq_true rfl, Nat.le_of_ble_eq_true rfl⟩ dX9_task_10 rfl ?_
  refine am_astore_n F [(3, .ref (z + v6)), (0, .ref (z + 0)), (1, .int a1), (2, .int a2)] dX9_task_13 rfl (by decide) rfl ?_
  refine am_iload_n F 3 dX9_task_14 rfl rfl ?_
  by_cases c7 : a2 = (0 : Int32)
  · have h := (if_pos c7).symm.trans h
    refine am_tabIn F 0 (tgt := 60) dX9_task_15 (by rw [c7]; decide) rfl rfl (by decide) ?_
    refine am_aload_n F 0 dX9_task_60 rfl rfl ?_
    refine gf_X9_265 F (q_X8_taskOf 1 lyk_1 a1 M2 v6 M5 h4) dX9_task_61 ?_
    exact am_xiret F hr ⟨Nat.le_of_ble_eq_true rfl, Nat.le_of_ble_eq_true rfl⟩ h dX9_task_64
  · have h := (if_neg c7).symm.trans h
    by_cases c8 : a2 = (1 : Int32)
    · have h := (if_pos c8).symm.trans h
      refine am_tabIn F 1 (tgt := 65) dX9_task_15 (by rw [c8]; decide) rfl rfl (by decide) ?_
      refine am_aload_n F 0 dX9_task_65 rfl rfl ?_
      refine gf_X9_268 F (q_X8_taskOf 1 lyk_1 a1 M2 v6 M5 h4) dX9_task_66 ?_
      exact am_xiret F hr ⟨Nat.le_of_ble_eq_true rfl, Nat.le_of_ble_eq_true rfl⟩ h dX9_task_69
    · have h := (if_neg c8).symm.trans h
      by_cases c9 : a2 = (2 : Int32)
      · have h := (if_pos c9).symm.trans h
        refine am_tabIn F 2 (tgt := 70) dX9_task_15 (by rw [c9]; decide) rfl rfl (by decide) ?_
        refine am_aload_n F 0 dX9_task_70 rfl rfl ?_
        refine gf_X9_271 F (q_X8_taskOf 1 lyk_1 a1 M2 v6 M5 h4) dX9_task_71 ?_
        exact am_xiret F hr ⟨Nat.le_of_ble_eq_true rfl, Nat.le_of_ble_eq_true rfl⟩ h dX9_task_74
      · have h := (if_neg c9).symm.trans h
        by_cases c10 : a2 = (3 : Int32)
        · have h := (if_pos c10).symm.trans h
          refine am_tabIn F 3 (tgt := 75) dX9_task_15 (by rw [c10]; decide) rfl rfl (by decide) ?_
          refine am_aload_n F 0 dX9_task_75 rfl rfl ?_
          refine gf_X9_274 F (q_X8_taskOf 1 lyk_1 a1 M2 v6 M5 h4) dX9_task_76 ?_
          exact am_xiret F hr ⟨Nat.le_of_ble_eq_true rfl, Nat.le_of_ble_eq_true rfl⟩ h dX9_task_79
        · have h := (if_neg c10).symm.trans h
          by_cases c11 : a2 = (4 : Int32)
          · have h := (if_pos c11).symm.trans h
            refine am_tabIn F 4 (tgt := 80) dX9_task_15 (by rw [c11]; decide) rfl rfl (by decide) ?_
            refine am_aload_n F 0 dX9_task_80 rfl rfl ?_
            refine gf_X9_277 F (q_X8_taskOf 1 lyk_1 a1 M2 v6 M5 h4) dX9_task_81 ?_
            exact am_xiret F hr ⟨Nat.le_of_ble_eq_true rfl, Nat.le_of_ble_eq_true rfl⟩ h dX9_task_84
          · have h := (if_neg c11).symm.trans h
            by_cases c12 : a2 = (5 : Int32)
            · have h := (if_pos c12).symm.trans h
              refine am_tabIn F 5 (tgt := 85) dX9_task_15 (by rw [c12]; decide) rfl rfl (by decide) ?_
              refine am_aload_n F 0 dX9_task_85 rfl rfl ?_
              refine gf_X9_280 F (q_X8_taskOf 1 lyk_1 a1 M2 v6 M5 h4) dX9_task_86 ?_
              exact am_xiret F hr ⟨Nat.le_of_ble_eq_true rfl, Nat.le_of_ble_eq_true rfl⟩ h dX9_task_89
            · have h := (if_neg c12).symm.trans h
              by_cases c13 : a2 = (6 : Int32)
              · have h := (if_pos c13).symm.trans h
                refine am_tabIn F 6 (tgt := 90) dX9_task_15 (by rw [c13]; decide) rfl rfl (by decide) ?_
                refine am_aload_n F 0 dX9_task_90 rfl rfl ?_
                refine gf_X9_283 F (q_X8_taskOf 1 lyk_1 a1 M2 v6 M5 h4) dX9_task_91 ?_
                exact am_xiret F hr ⟨Nat.le_of_ble_eq_true rfl, Nat.le_of_ble_eq_true rfl⟩ h dX9_task_94
              · have h := (if_neg c13).symm.trans h
                by_cases c14 : a2 = (7 : Int32)
                · have h := (if_pos c14).symm.trans h
                  refine am_tabIn F 7 (tgt := 95) dX9_task_15 (by rw [c14]; decide) rfl rfl (by decide) ?_
                  refine am_aload_n F 0 dX9_task_95 rfl rfl ?_
                  refine gf_X9_286 F (q_X8_taskOf 1 lyk_1 a1 M2 v6 M5 h4) dX9_task_96 ?_
                  exact am_xiret F hr ⟨Nat.le_of_ble_eq_true rfl, Nat.le_of_ble_eq_true rfl⟩ h dX9_task_99
                · have h := (if_neg c14).symm.trans h
                  have hsw := am_sw (x := a2) (lo := 0) (n := 8) (by decide) (by decide) (fun j hj => match j, hj with | 0, _ => c7 | 1, _ => c8 | 2, _ => c9 | 3, _ => c10 | 4, _ => c11 | 5, _ => c12 | 6, _ => c13 | 7, _ => c14)
                  refine am_tabOut F (tgt := 100) dX9_task_15 (hsw.imp_right (fun h9 => by omega)) (by decide) ?_
                  exact am_throwW F ht0 hls xt_X9_132_289_136 ⟨Nat.le_of_ble_eq_true rfl, Nat.le_of_ble_eq_true rfl, Nat.le_of_ble_eq_true rfl, Nat.le_of_ble_eq_true rfl⟩ ⟨Nat.le_of_ble_eq_true rfl, Nat.le_of_ble_eq_true rfl⟩ h dX9_task_100 dX9_task_103 dX9_task_104 dX9_task_107 dX9_task_110
/-! AisleScheduler.tasksIn(I)I -/
abbrev rm_X9_tasksIn : Room := { frames := 6, cells := 1, slots := 6, locals := 100 }
theorem yn_X9_tasksIn : am_yn yX9_tasksIn 1 := ⟨⟨by decide +kernel, by decide +kernel⟩, by decide +kernel⟩
def g_X9_tasksIn_L24 (a1 : Int32) : Nat → Int32 → Int32 → am_M → Option ((Int32) × am_M)
  | 0, _, _, _ => none
  | n + 1, a2, a3, M => (if (am_g M 1 3) ≤ a3 then (some (a2, M)) else (am_b (g_X8_taskOf 1 a3 M) (fun v3 M2 => (if (am_g M2 v3 5) = a1 then (g_X9_tasksIn_L24 a1 n (a2 + (1 : Int32)) (a3 + (1 : Int32)) M2) else (g_X9_tasksIn_L24 a1 n a2 (a3 + (1 : Int32)) M2)))))
set_option maxHeartbeats 4000000 in
set_option maxRecDepth 100000 in
theorem cl_X9_tasksIn_L24 {l : Launch} {p : Program} {e : Env} {s : State} {m : MethodId} {args : Array Value} {below : List Frame} {meth : Method} {c : Code} {Q : State → Prop} {D : va_G} {E : Nat → ClassId} {z : Nat} (F : am_F p s m args meth c cX9_tasksIn 4 RX9 D E z) (a1 : Int32) : ∀ (n : Nat) (a2 : Int32) (a3 : Int32) (M : am_M) (x : Int32) (M1 : am_M), g_X9_tasksIn_L24 a1 n a2 a3 M = some (x, M1) → (am_W p l e rm_X9_tasksIn s m args below meth c Q 4 D E z 0 0 M1 59 [(2, .int x)] []) → am_W p l e rm_X9_tasksIn s m args below meth c Q 4 D E z 0 0 M 24 [(0, .ref (z + 0)), (1, .int a1), (2, .int a2), (3, .int a3)] [] := by
  intro n
  induction n with
  | zero => intro a2 a3 M x M1 h K; cases h
  | succ n ih =>
    intro a2 a3 M x M1 h K
    rw [g_X9_tasksIn_L24] at h
    refine am_iload_n F 3 dX9_tasksIn_24 rfl rfl ?_
    refine am_aload_n F 0 dX9_tasksIn_25 rfl rfl ?_
    refine gf_X9_12 F lyk_0 dX9_tasksIn_26 ?_
    refine gf_X9_139 F lyk_1 dX9_tasksIn_29 ?_
    refine am_icmp_ge F (tgt := 59) dX9_tasksIn_32 (by decide) (fun c5 => ?_) (fun c5 => ?_)
    · have h := (if_pos c5).symm.trans h
      cases h
      exact am_sub (lv' := [(2, .int a2)]) [2] rfl (K)
    · have h := (if_neg c5).symm.trans h
      refine am_aload_n F 0 dX9_tasksIn_35 rfl rfl ?_
      refine gf_X9_12 F lyk_0 dX9_tasksIn_36 ?_
      refine am_iload_n F 3 dX9_tasksIn_39 rfl rfl ?_
      obtain ⟨v3, M2, h1, h⟩ := am_bE h
      refine am_callVr F [.int a3] lyk_1 (by decide) rfl cw_X9_240 (c_X8_taskOf l D E z 1 lyk_1 a3 M v3 M2 h1) yn_X8_taskOf rfl ⟨Nat.le_of_ble_eq_true rfl, Nat.le_of_ble_eq_true rfl⟩ rfl rfl (Nat.le_of_ble_eq_true rfl) ⟨Nat.le_of_ble_eq_true rfl, Nat.le_of_ble_eq_true rfl⟩ dX9_tasksIn_40 rfl ?_
      refine gf_X9_265 F (q_X8_taskOf 1 lyk_1 a3 M v3 M2 h1) dX9_tasksIn_43 ?_
      refine am_iload_n F 1 dX9_tasksIn_46 rfl rfl ?_
      refine am_icmp_ne F (tgt := 53) dX9_tasksIn_47 (by decide) (fun c4 => ?_) (fun c4 => ?_)
      · have h := (if_neg c4).symm.trans h
        refine am_iinc F [(3, .int (a3 + (1 : Int32))), (0, .ref (z + 0)), (1, .int a1), (2, .int a2)] 3 dX9_tasksIn_53 (by decide) rfl rfl rfl ?_
        refine am_goto F (tgt := 24) dX9_tasksIn_56 (by decide) ?_
        exact am_sub (lv' := [(0, .ref (z + 0)), (1, .int a1), (2, .int a2), (3, .int (a3 + (1 : Int32)))]) [1, 2, 3, 0] rfl (ih a2 (a3 + (1 : Int32)) M2 _ _ h K)
      · have h := (if_pos c4).symm.trans h
        refine am_iinc F [(2, .int (a2 + (1 : Int32))), (0, .ref (z + 0)), (1, .int a1), (3, .int a3)] 2 dX9_tasksIn_50 (by decide) rfl rfl rfl ?_
        refine am_iinc F [(3, .int (a3 + (1 : Int32))), (2, .int (a2 + (1 : Int32))), (0, .ref (z + 0)), (1, .int a1)] 3 dX9_tasksIn_53 (by decide) rfl rfl rfl ?_
        refine am_goto F (tgt := 24) dX9_tasksIn_56 (by decide) ?_
        exact am_sub (lv' := [(0, .ref (z + 0)), (1, .int a1), (2, .int (a2 + (1 : Int32))), (3, .int (a3 + (1 : Int32)))]) [2, 3, 1, 0] rfl (ih (a2 + (1 : Int32)) (a3 + (1 : Int32)) M2 _ _ h K)
def g_X9_tasksIn (a1 : Int32) (M : am_M) : Option ((Int32 ⊕ Nat) × am_M) := (if a1 < (0 : Int32) then (some ((.inr 2 : Int32 ⊕ Nat), M)) else (if a1 ≤ (3 : Int32) then (am_b (g_X9_tasksIn_L24 a1 am_fu (0 : Int32) (0 : Int32) M) (fun x6 M7 => (some ((.inl x6 : Int32 ⊕ Nat), M7)))) else (some ((.inr 2 : Int32 ⊕ Nat), M))))
set_option maxHeartbeats 4000000 in
set_option maxRecDepth 100000 in
theorem c_X9_tasksIn (l : Launch) (hls : l.stackTraces = false) (D : va_G) (E : Nat → ClassId) (z : Nat) (a1 : Int32) (M : am_M) (o : Int32 ⊕ Nat) (M1 : am_M) (h : g_X9_tasksIn a1 M = some (o, M1)) : am_Xi l yX9_tasksIn cX9_tasksIn 4 (some .int) rm_X9_tasksIn D E z [.ref (z + 0), .int a1] M 1 6 o M1 := by
  unfold g_X9_tasksIn at h
  refine am_xof (own := RX9) (by decide +kernel) rfl (by exact Nat.le_of_ble_eq_true rfl) ?_
  intro p e s m args below meth c F hr ht0
  show am_W p l e rm_X9_tasksIn s m args below meth c _ 4 D E z 0 0 M 0 [(0, .ref (z + 0)), (1, .int a1)] []
  refine am_iload_n F 1 dX9_tasksIn_0 rfl rfl ?_
  refine am_if_lt F (tgt := 9) dX9_tasksIn_1 (by decide) (fun c10 => ?_) (fun c10 => ?_)
  · have h := (if_pos c10).symm.trans h
    exact am_throwW F ht0 hls xt_X9_132_295_136 ⟨Nat.le_of_ble_eq_true rfl, Nat.le_of_ble_eq_true rfl, Nat.le_of_ble_eq_true rfl, Nat.le_of_ble_eq_true rfl⟩ ⟨Nat.le_of_ble_eq_true rfl, Nat.le_of_ble_eq_true rfl⟩ h dX9_tasksIn_9 dX9_tasksIn_12 dX9_tasksIn_13 dX9_tasksIn_16 dX9_tasksIn_19
  · have h := (if_neg c10).symm.trans h
    refine am_iload_n F 1 dX9_tasksIn_4 rfl rfl ?_
    refine am_iconst F (v := (3 : Int32)) dX9_tasksIn_5 (by decide) ?_
    refine am_icmp_le F (tgt := 20) dX9_tasksIn_6 (by decide) (fun c9 => ?_) (fun c9 => ?_)
    · have h := (if_pos c9).symm.trans h
      refine am_iconst F (v := (0 : Int32)) dX9_tasksIn_20 (by decide) ?_
      refine am_istore_n F [(2, .int (0 : Int32)), (0, .ref (z + 0)), (1, .int a1)] dX9_tasksIn_21 rfl (by decide) rfl ?_
      refine am_iconst F (v := (0 : Int32)) dX9_tasksIn_22 (by decide) ?_
      refine am_istore_n F [(3, .int (0 : Int32)), (2, .int (0 : Int32)), (0, .ref (z + 0)), (1, .int a1)] dX9_tasksIn_23 rfl (by decide) rfl ?_
      obtain ⟨x6, M7, h8, h⟩ := am_bE h
      refine am_sub (lv' := [(0, .ref (z + 0)), (1, .int a1), (2, .int (0 : Int32)), (3, .int (0 : Int32))]) [2, 3, 1, 0] rfl (cl_X9_tasksIn_L24 F a1 am_fu (0 : Int32) (0 : Int32) M x6 M7 h8 ?_)
      refine am_iload_n F 0 dX9_tasksIn_59 rfl rfl ?_
      exact am_xiret F hr ⟨Nat.le_of_ble_eq_true rfl, Nat.le_of_ble_eq_true rfl⟩ h dX9_tasksIn_60
    · have h := (if_neg c9).symm.trans h
      exact am_throwW F ht0 hls xt_X9_132_295_136 ⟨Nat.le_of_ble_eq_true rfl, Nat.le_of_ble_eq_true rfl, Nat.le_of_ble_eq_true rfl, Nat.le_of_ble_eq_true rfl⟩ ⟨Nat.le_of_ble_eq_true rfl, Nat.le_of_ble_eq_true rfl⟩ h dX9_tasksIn_9 dX9_tasksIn_12 dX9_tasksIn_13 dX9_tasksIn_16 dX9_tasksIn_19
/-! AisleScheduler.advance(I)I -/
abbrev rm_X9_advance : Room := { frames := 7, cells := 2, slots := 12, locals := 137 }
theorem yn_X9_advance : am_yn yX9_advance 1 := ⟨⟨by decide +kernel, by decide +kernel⟩, by decide +kernel⟩
def g_X9_advance_L35 (a1 : Int32) : Nat → Int32 → Int32 → am_M → Option ((Int32) × am_M)
  | 0, _, _, _ => none
  | n + 1, a2, a3, M => (if a1 ≤ a3 then (some (a2, M)) else (am_b (g_X8_passTick 1 M) (fun v6 M5 => (g_X9_advance_L35 a1 n (a2 + v6) (a3 + (1 : Int32)) M5))))
set_option maxHeartbeats 4000000 in
set_option maxRecDepth 100000 in
theorem cl_X9_advance_L35 {l : Launch} {p : Program} {e : Env} {s : State} {m : MethodId} {args : Array Value} {below : List Frame} {meth : Method} {c : Code} {Q : State → Prop} {D : va_G} {E : Nat → ClassId} {z : Nat} (F : am_F p s m args meth c cX9_advance 4 RX9 D E z) (a1 : Int32) : ∀ (n : Nat) (a2 : Int32) (a3 : Int32) (M : am_M) (x : Int32) (M1 : am_M), g_X9_advance_L35 a1 n a2 a3 M = some (x, M1) → (am_W p l e rm_X9_advance s m args below meth c Q 4 D E z 1 6 M1 56 [(2, .int x)] []) → am_W p l e rm_X9_advance s m args below meth c Q 4 D E z 1 6 M 35 [(0, .ref (z + 0)), (1, .int a1), (2, .int a2), (3, .int a3)] [] := by
  intro n
  induction n with
  | zero => intro a2 a3 M x M1 h K; cases h
  | succ n ih =>
    intro a2 a3 M x M1 h K
    rw [g_X9_advance_L35] at h
    refine am_iload_n F 3 dX9_advance_35 rfl rfl ?_
    refine am_iload_n F 1 dX9_advance_36 rfl rfl ?_
    refine am_icmp_ge F (tgt := 56) dX9_advance_37 (by decide) (fun c7 => ?_) (fun c7 => ?_)
    · have h := (if_pos c7).symm.trans h
      cases h
      exact am_sub (lv' := [(2, .int a2)]) [2] rfl (K)
    · have h := (if_neg c7).symm.trans h
      refine am_iload_n F 2 dX9_advance_40 rfl rfl ?_
      refine am_aload_n F 0 dX9_advance_41 rfl rfl ?_
      refine gf_X9_12 F lyk_0 dX9_advance_42 ?_
      obtain ⟨v6, M5, h4, h⟩ := am_bE h
      refine am_callVi F [] lyk_1 (by decide) rfl cw_X9_299 (c_X8_passTick l D E z 1 lyk_1 M v6 M5 h4) yn_X8_passTick rfl ⟨Nat.le_of_ble_eq_true rfl, Nat.le_of_ble_eq_true rfl⟩ rfl rfl (Nat.le_of_ble_eq_true rfl) ⟨Nat.le_of_ble_eq_true rfl, Nat.le_of_ble_eq_true rfl⟩ dX9_advance_45 rfl ?_
      refine am_iadd F dX9_advance_48 ?_
      refine am_istore_n F [(2, .int (a2 + v6)), (0, .ref (z + 0)), (1, .int a1), (3, .int a3)] dX9_advance_49 rfl (by decide) rfl ?_
      refine am_iinc F [(3, .int (a3 + (1 : Int32))), (2, .int (a2 + v6)), (0, .ref (z + 0)), (1, .int a1)] 3 dX9_advance_50 (by decide) rfl rfl rfl ?_
      refine am_goto F (tgt := 35) dX9_advance_53 (by decide) ?_
      exact am_sub (lv' := [(0, .ref (z + 0)), (1, .int a1), (2, .int (a2 + v6)), (3, .int (a3 + (1 : Int32)))]) [2, 3, 1, 0] rfl (ih (a2 + v6) (a3 + (1 : Int32)) M5 _ _ h K)
def g_X9_advance (a1 : Int32) (M : am_M) : Option ((Int32 ⊕ Nat) × am_M) := (am_bx (g_X9_demandTicks a1 (1 : Int32) M) (fun _ M2 => (if ((am_g M2 1 4) + a1) ≤ (1000 : Int32) then (am_b (g_X9_advance_L35 a1 am_fu (0 : Int32) (0 : Int32) M2) (fun x8 M9 => (some ((.inl x8 : Int32 ⊕ Nat), M9)))) else (some ((.inr 3 : Int32 ⊕ Nat), M2)))))
set_option maxHeartbeats 4000000 in
set_option maxRecDepth 100000 in
theorem c_X9_advance (l : Launch) (hls : l.stackTraces = false) (D : va_G) (E : Nat → ClassId) (z : Nat) (a1 : Int32) (M : am_M) (o : Int32 ⊕ Nat) (M1 : am_M) (h : g_X9_advance a1 M = some (o, M1)) : am_Xi l yX9_advance cX9_advance 4 (some .int) rm_X9_advance D E z [.ref (z + 0), .int a1] M 2 12 o M1 := by
  unfold g_X9_advance at h
  refine am_xof (own := RX9) (by decide +kernel) rfl (by exact Nat.le_of_ble_eq_true rfl) ?_
  intro p e s m args below meth c F hr ht0
  show am_W p l e rm_X9_advance s m args below meth c _ 4 D E z 0 0 M 0 [(0, .ref (z + 0)), (1, .int a1)] []
  refine am_iload_n F 1 dX9_advance_0 rfl rfl ?_
  refine am_iconst F (v := (1 : Int32)) dX9_advance_1 (by decide) ?_
  obtain ⟨o3, M2, h1, h⟩ := am_bxE h
  refine am_xcallSv F ht0 [.int a1, .int (1 : Int32)] cw_X9_187 rfl (c_X9_demandTicks l hls D E z a1 (1 : Int32) M o3 M2 h1) yn_X9_demandTicks rfl ⟨Nat.le_of_ble_eq_true rfl, Nat.le_of_ble_eq_true rfl⟩ rfl rfl (Nat.le_of_ble_eq_true rfl) ⟨Nat.le_of_ble_eq_true rfl, Nat.le_of_ble_eq_true rfl⟩ ⟨Nat.le_of_ble_eq_true rfl, Nat.le_of_ble_eq_true rfl⟩ dX9_advance_2 rfl h (fun _ _ h => ?_)
  refine am_aload_n F 0 dX9_advance_5 rfl rfl ?_
  refine gf_X9_12 F lyk_0 dX9_advance_6 ?_
  refine gf_X9_106 F lyk_1 dX9_advance_9 ?_
  refine am_iload_n F 1 dX9_advance_12 rfl rfl ?_
  refine am_iadd F dX9_advance_13 ?_
  refine am_sipush F (v := (1000 : Int32)) dX9_advance_14 (by decide) ?_
  refine am_icmp_le F (tgt := 31) dX9_advance_17 (by decide) (fun c11 => ?_) (fun c11 => ?_)
  · have h := (if_pos c11).symm.trans h
    refine am_iconst F (v := (0 : Int32)) dX9_advance_31 (by decide) ?_
    refine am_istore_n F [(2, .int (0 : Int32)), (0, .ref (z + 0)), (1, .int a1)] dX9_advance_32 rfl (by decide) rfl ?_
    refine am_iconst F (v := (0 : Int32)) dX9_advance_33 (by decide) ?_
    refine am_istore_n F [(3, .int (0 : Int32)), (2, .int (0 : Int32)), (0, .ref (z + 0)), (1, .int a1)] dX9_advance_34 rfl (by decide) rfl ?_
    obtain ⟨x8, M9, h10, h⟩ := am_bE h
    refine am_sub (lv' := [(0, .ref (z + 0)), (1, .int a1), (2, .int (0 : Int32)), (3, .int (0 : Int32))]) [2, 3, 1, 0] rfl (cl_X9_advance_L35 F a1 am_fu (0 : Int32) (0 : Int32) M2 x8 M9 h10 ?_)
    refine am_iload_n F 0 dX9_advance_56 rfl rfl ?_
    exact am_xiret F hr ⟨Nat.le_of_ble_eq_true rfl, Nat.le_of_ble_eq_true rfl⟩ h dX9_advance_57
  · have h := (if_neg c11).symm.trans h
    exact am_throwW F ht0 hls xt_X9_218_297_222 ⟨Nat.le_of_ble_eq_true rfl, Nat.le_of_ble_eq_true rfl, Nat.le_of_ble_eq_true rfl, Nat.le_of_ble_eq_true rfl⟩ ⟨Nat.le_of_ble_eq_true rfl, Nat.le_of_ble_eq_true rfl⟩ h dX9_advance_20 dX9_advance_23 dX9_advance_24 dX9_advance_27 dX9_advance_30
/-! AisleScheduler.statistic(II)I -/
abbrev rm_X9_statistic : Room := { frames := 7, cells := 2, slots := 12, locals := 121 }
theorem yn_X9_statistic : am_yn yX9_statistic 2 := ⟨⟨by decide +kernel, by decide +kernel⟩, by decide +kernel⟩
def g_X9_statistic (a1 : Int32) (a2 : Int32) (M : am_M) : Option ((Int32 ⊕ Nat) × am_M) := (am_bx (g_X9_demandRobot a1 M) (fun _ M2 => (if a2 < (0 : Int32) then (some ((.inr 2 : Int32 ⊕ Nat), M2)) else (if a2 < (5 : Int32) then (am_b (g_X8_robotOf 1 a1 M2) (fun v6 M5 => (am_b (g_X9_at (v6 + 4) 5 a2 M5) (fun v9 M8 => (some ((.inl v9 : Int32 ⊕ Nat), M8)))))) else (some ((.inr 2 : Int32 ⊕ Nat), M2))))))
set_option maxHeartbeats 4000000 in
set_option maxRecDepth 100000 in
theorem c_X9_statistic (l : Launch) (hls : l.stackTraces = false) (D : va_G) (E : Nat → ClassId) (z : Nat) (a1 : Int32) (a2 : Int32) (M : am_M) (o : Int32 ⊕ Nat) (M1 : am_M) (h : g_X9_statistic a1 a2 M = some (o, M1)) : am_Xi l yX9_statistic cX9_statistic 3 (some .int) rm_X9_statistic D E z [.ref (z + 0), .int a1, .int a2] M 2 12 o M1 := by
  unfold g_X9_statistic at h
  refine am_xof (own := RX9) (by decide +kernel) rfl (by exact Nat.le_of_ble_eq_true rfl) ?_
  intro p e s m args below meth c F hr ht0
  show am_W p l e rm_X9_statistic s m args below meth c _ 3 D E z 0 0 M 0 [(0, .ref (z + 0)), (1, .int a1), (2, .int a2)] []
  refine am_aload_n F 0 dX9_statistic_0 rfl rfl ?_
  refine am_iload_n F 1 dX9_statistic_1 rfl rfl ?_
  obtain ⟨o3, M2, h1, h⟩ := am_bxE h
  refine am_xcallVv F ht0 [.int a1] lyk_0 (by decide) rfl cw_X9_93 (c_X9_demandRobot l hls D E z a1 M o3 M2 h1) yn_X9_demandRobot rfl ⟨Nat.le_of_ble_eq_true rfl, Nat.le_of_ble_eq_true rfl⟩ rfl rfl (Nat.le_of_ble_eq_true rfl) ⟨Nat.le_of_ble_eq_true rfl, Nat.le_of_ble_eq_true rfl⟩ ⟨Nat.le_of_ble_eq_true rfl, Nat.le_of_ble_eq_true rfl⟩ dX9_statistic_2 rfl h (fun _ _ h => ?_)
  refine am_iload_n F 2 dX9_statistic_5 rfl rfl ?_
  refine am_if_lt F (tgt := 14) dX9_statistic_6 (by decide) (fun c11 => ?_) (fun c11 => ?_)
  · have h := (if_pos c11).symm.trans h
    exact am_throwW F ht0 hls xt_X9_132_302_136 ⟨Nat.le_of_ble_eq_true rfl, Nat.le_of_ble_eq_true rfl, Nat.le_of_ble_eq_true rfl, Nat.le_of_ble_eq_true rfl⟩ ⟨Nat.le_of_ble_eq_true rfl, Nat.le_of_ble_eq_true rfl⟩ h dX9_statistic_14 dX9_statistic_17 dX9_statistic_18 dX9_statistic_21 dX9_statistic_24
  · have h := (if_neg c11).symm.trans h
    refine am_iload_n F 2 dX9_statistic_9 rfl rfl ?_
    refine am_iconst F (v := (5 : Int32)) dX9_statistic_10 (by decide) ?_
    refine am_icmp_lt F (tgt := 25) dX9_statistic_11 (by decide) (fun c10 => ?_) (fun c10 => ?_)
    · have h := (if_pos c10).symm.trans h
      refine am_aload_n F 0 dX9_statistic_25 rfl rfl ?_
      refine gf_X9_12 F lyk_0 dX9_statistic_26 ?_
      refine am_iload_n F 1 dX9_statistic_29 rfl rfl ?_
      obtain ⟨v6, M5, h4, h⟩ := am_bE h
      refine am_callVr F [.int a1] lyk_1 (by decide) rfl cw_X9_96 (c_X8_robotOf l D E z 1 lyk_1 a1 M2 v6 M5 h4) yn_X8_robotOf rfl ⟨Nat.le_of_ble_eq_true rfl, Nat.le_of_ble_eq_true rfl⟩ rfl rfl (Nat.le_of_ble_eq_true rfl) ⟨Nat.le_of_ble_eq_true rfl, Nat.le_of_ble_eq_true rfl⟩ dX9_statistic_30 rfl ?_
      refine gf_X9_304 F (q_X8_robotOf 1 lyk_1 a1 M2 v6 M5 h4) dX9_statistic_33 ?_
      refine am_iload_n F 2 dX9_statistic_36 rfl rfl ?_
      obtain ⟨v9, M8, h7, h⟩ := am_bE h
      refine am_callSi F [.ref (z + (v6 + 4)), .int a2] cw_X9_69 rfl (c_X9_at l D E z (v6 + 4) 5 (lyf_4_statistics (q_X8_robotOf 1 lyk_1 a1 M2 v6 M5 h4)) a2 M5 v9 M8 h7) yn_X9_at rfl ⟨Nat.le_of_ble_eq_true rfl, Nat.le_of_ble_eq_true rfl⟩ rfl rfl (Nat.le_of_ble_eq_true rfl) ⟨Nat.le_of_ble_eq_true rfl, Nat.le_of_ble_eq_true rfl⟩ dX9_statistic_37 rfl ?_
      exact am_xiret F hr ⟨Nat.le_of_ble_eq_true rfl, Nat.le_of_ble_eq_true rfl⟩ h dX9_statistic_40
    · have h := (if_neg c10).symm.trans h
      exact am_throwW F ht0 hls xt_X9_132_302_136 ⟨Nat.le_of_ble_eq_true rfl, Nat.le_of_ble_eq_true rfl, Nat.le_of_ble_eq_true rfl, Nat.le_of_ble_eq_true rfl⟩ ⟨Nat.le_of_ble_eq_true rfl, Nat.le_of_ble_eq_true rfl⟩ h dX9_statistic_14 dX9_statistic_17 dX9_statistic_18 dX9_statistic_21 dX9_statistic_24
/-! AisleScheduler.activityOf(LAisleScheduler$Robot;)F -/
abbrev rm_X9_activityOf : Room := { frames := 6, cells := 1, slots := 6, locals := 100 }
theorem yn_X9_activityOf : am_yn yX9_activityOf 1 := ⟨⟨by decide +kernel, by decide +kernel⟩, by decide +kernel⟩
def g_X9_activityOf (t1 : Nat) (M : am_M) : Option ((UInt32 ⊕ Nat) × am_M) := (if (0 : Int32) < ((am_g M 1 4) - (am_g M t1 4)) then (am_b (g_X9_at (t1 + 4) 5 (2 : Int32) M) (fun v3 M2 => (am_c ((FP.fdiv (FP.i2f (((am_g M 1 4) - (am_g M t1 4)) - v3)) (FP.i2f ((am_g M 1 4) - (am_g M t1 4)))) &&& 0x7fffffff ≤ 0x7f800000) (some ((.inl (FP.fdiv (FP.i2f (((am_g M 1 4) - (am_g M t1 4)) - v3)) (FP.i2f ((am_g M 1 4) - (am_g M t1 4)))) : UInt32 ⊕ Nat), M2))))) else (some ((.inr 6 : UInt32 ⊕ Nat), M)))
set_option maxHeartbeats 4000000 in
set_option maxRecDepth 100000 in
theorem c_X9_activityOf (l : Launch) (hls : l.stackTraces = false) (D : va_G) (E : Nat → ClassId) (z : Nat) (t1 : Nat) (y1 : am_ly t1 = (4, 0)) (M : am_M) (o : UInt32 ⊕ Nat) (M1 : am_M) (h : g_X9_activityOf t1 M = some (o, M1)) : am_Xf l yX9_activityOf cX9_activityOf 3 (some .float) rm_X9_activityOf D E z [.ref (z + 0), .ref (z + t1)] M 1 6 o M1 := by
  unfold g_X9_activityOf at h
  refine am_xof (own := RX9) (by decide +kernel) rfl (by exact Nat.le_of_ble_eq_true rfl) ?_
  intro p e s m args below meth c F hr ht0
  show am_W p l e rm_X9_activityOf s m args below meth c _ 3 D E z 0 0 M 0 [(0, .ref (z + 0)), (1, .ref (z + t1))] []
  refine am_aload_n F 0 dX9_activityOf_0 rfl rfl ?_
  refine gf_X9_12 F lyk_0 dX9_activityOf_1 ?_
  refine gf_X9_106 F lyk_1 dX9_activityOf_4 ?_
  refine am_aload_n F 1 dX9_activityOf_7 rfl rfl ?_
  refine gf_X9_421 F y1 dX9_activityOf_8 ?_
  refine am_isub F dX9_activityOf_11 ?_
  refine am_istore_n F [(2, .int ((am_g M 1 4) - (am_g M t1 4))), (0, .ref (z + 0)), (1, .ref (z + t1))] dX9_activityOf_12 rfl (by decide) rfl ?_
  refine am_iload_n F 0 dX9_activityOf_13 rfl rfl ?_
  refine am_if_gt F (tgt := 28) dX9_activityOf_14 (by decide) (fun c5 => ?_) (fun c5 => ?_)
  · have h := (if_pos c5).symm.trans h
    refine am_iload_n F 0 dX9_activityOf_28 rfl rfl ?_
    refine am_aload_n F 2 dX9_activityOf_29 rfl rfl ?_
    refine gf_X9_304 F y1 dX9_activityOf_30 ?_
    refine am_iconst F (v := (2 : Int32)) dX9_activityOf_33 (by decide) ?_
    obtain ⟨v3, M2, h1, h⟩ := am_bE h
    refine am_callSi F [.ref (z + (t1 + 4)), .int (2 : Int32)] cw_X9_69 rfl (c_X9_at l D E z (t1 + 4) 5 (lyf_4_statistics y1) (2 : Int32) M v3 M2 h1) yn_X9_at rfl ⟨Nat.le_of_ble_eq_true rfl, Nat.le_of_ble_eq_true rfl⟩ rfl rfl (Nat.le_of_ble_eq_true rfl) ⟨Nat.le_of_ble_eq_true rfl, Nat.le_of_ble_eq_true rfl⟩ dX9_activityOf_34 rfl ?_
    refine am_isub F dX9_activityOf_37 ?_
    refine am_i2f F dX9_activityOf_38 ?_
    refine am_iload_n F 0 dX9_activityOf_39 rfl rfl ?_
    refine am_i2f F dX9_activityOf_40 ?_
    obtain ⟨q4, h⟩ := am_cE h
    refine am_fdiv F dX9_activityOf_41 q4 ?_
    exact am_xfret F hr ⟨Nat.le_of_ble_eq_true rfl, Nat.le_of_ble_eq_true rfl⟩ h dX9_activityOf_42
  · have h := (if_neg c5).symm.trans h
    exact am_throwW F ht0 hls xt_X9_318_422_322 ⟨Nat.le_of_ble_eq_true rfl, Nat.le_of_ble_eq_true rfl, Nat.le_of_ble_eq_true rfl, Nat.le_of_ble_eq_true rfl⟩ ⟨Nat.le_of_ble_eq_true rfl, Nat.le_of_ble_eq_true rfl⟩ h dX9_activityOf_17 dX9_activityOf_20 dX9_activityOf_21 dX9_activityOf_24 dX9_activityOf_27
/-! AisleScheduler.activity(I)F -/
abbrev rm_X9_activity : Room := { frames := 7, cells := 2, slots := 12, locals := 122 }
theorem yn_X9_activity : am_yn yX9_activity 1 := ⟨⟨by decide +kernel, by decide +kernel⟩, by decide +kernel⟩
def g_X9_activity (a1 : Int32) (M : am_M) : Option ((UInt32 ⊕ Nat) × am_M) := (am_bx (g_X9_demandRobot a1 M) (fun _ M2 => (am_b (g_X8_robotOf 1 a1 M2) (fun v6 M5 => (am_bx (g_X9_activityOf v6 M5) (fun v10 M8 => (some ((.inl v10 : UInt32 ⊕ Nat), M8))))))))
set_option maxHeartbeats 4000000 in
set_option maxRecDepth 100000 in
theorem c_X9_activity (l : Launch) (hls : l.stackTraces = false) (D : va_G) (E : Nat → ClassId) (z : Nat) (a1 : Int32) (M : am_M) (o : UInt32 ⊕ Nat) (M1 : am_M) (h : g_X9_activity a1 M = some (o, M1)) : am_Xf l yX9_activity cX9_activity 2 (some .float) rm_X9_activity D E z [.ref (z + 0), .int a1] M 2 12 o M1 := by
  unfold g_X9_activity at h
  refine am_xof (own := RX9) (by decide +kernel) rfl (by exact Nat.le_of_ble_eq_true rfl) ?_
  intro p e s m args below meth c F hr ht0
  show am_W p l e rm_X9_activity s m args below meth c _ 2 D E z 0 0 M 0 [(0, .ref (z + 0)), (1, .int a1)] []
  refine am_aload_n F 0 dX9_activity_0 rfl rfl ?_
  refine am_iload_n F 1 dX9_activity_1 rfl rfl ?_
  obtain ⟨o3, M2, h1, h⟩ := am_bxE h
  refine am_xcallVv F ht0 [.int a1] lyk_0 (by decide) rfl cw_X9_93 (c_X9_demandRobot l hls D E z a1 M o3 M2 h1) yn_X9_demandRobot rfl ⟨Nat.le_of_ble_eq_true rfl, Nat.le_of_ble_eq_true rfl⟩ rfl rfl (Nat.le_of_ble_eq_true rfl) ⟨Nat.le_of_ble_eq_true rfl, Nat.le_of_ble_eq_true rfl⟩ ⟨Nat.le_of_ble_eq_true rfl, Nat.le_of_ble_eq_true rfl⟩ dX9_activity_2 rfl h (fun _ _ h => ?_)
  refine am_aload_n F 0 dX9_activity_5 rfl rfl ?_
  refine am_aload_n F 0 dX9_activity_6 rfl rfl ?_
  refine gf_X9_12 F lyk_0 dX9_activity_7 ?_
  refine am_iload_n F 1 dX9_activity_10 rfl rfl ?_
  obtain ⟨v6, M5, h4, h⟩ := am_bE h
  refine am_callVr F [.int a1] lyk_1 (by decide) rfl cw_X9_96 (c_X8_robotOf l D E z 1 lyk_1 a1 M2 v6 M5 h4) yn_X8_robotOf rfl ⟨Nat.le_of_ble_eq_true rfl, Nat.le_of_ble_eq_true rfl⟩ rfl rfl (Nat.le_of_ble_eq_true rfl) ⟨Nat.le_of_ble_eq_true rfl, Nat.le_of_ble_eq_true rfl⟩ dX9_activity_11 rfl ?_
  obtain ⟨o9, M8, h7, h⟩ := am_bxE h
  refine am_xcallVf F ht0 [.ref (z + v6)] lyk_0 (by decide) rfl cw_X9_307 (c_X9_activityOf l hls D E z v6 (q_X8_robotOf 1 lyk_1 a1 M2 v6 M5 h4) M5 o9 M8 h7) yn_X9_activityOf rfl ⟨Nat.le_of_ble_eq_true rfl, Nat.le_of_ble_eq_true rfl⟩ rfl rfl (Nat.le_of_ble_eq_true rfl) ⟨Nat.le_of_ble_eq_true rfl, Nat.le_of_ble_eq_true rfl⟩ ⟨Nat.le_of_ble_eq_true rfl, Nat.le_of_ble_eq_true rfl⟩ dX9_activity_14 rfl h (fun v10 _ h => ?_)
  exact am_xfret F hr ⟨Nat.le_of_ble_eq_true rfl, Nat.le_of_ble_eq_true rfl⟩ h dX9_activity_17
/-! AisleScheduler.activityBits(I)I -/
abbrev rm_X9_activityBits : Room := { frames := 7, cells := 2, slots := 12, locals := 122 }
theorem yn_X9_activityBits : am_yn yX9_activityBits 1 := ⟨⟨by decide +kernel, by decide +kernel⟩, by decide +kernel⟩
def g_X9_activityBits (a1 : Int32) (M : am_M) : Option ((Int32 ⊕ Nat) × am_M) := (am_bx (g_X9_demandRobot a1 M) (fun _ M2 => (am_b (g_X8_robotOf 1 a1 M2) (fun v6 M5 => (am_bx (g_X9_activityOf v6 M5) (fun v10 M8 => (am_b (g_X9_bitsOf v10 M8) (fun v13 M12 => (some ((.inl v13 : Int32 ⊕ Nat), M12))))))))))
set_option maxHeartbeats 4000000 in
set_option maxRecDepth 100000 in
theorem c_X9_activityBits (l : Launch) (hls : l.stackTraces = false) (D : va_G) (E : Nat → ClassId) (z : Nat) (a1 : Int32) (M : am_M) (o : Int32 ⊕ Nat) (M1 : am_M) (h : g_X9_activityBits a1 M = some (o, M1)) : am_Xi l yX9_activityBits cX9_activityBits 2 (some .int) rm_X9_activityBits D E z [.ref (z + 0), .int a1] M 2 12 o M1 := by
  unfold g_X9_activityBits at h
  refine am_xof (own := RX9) (by decide +kernel) rfl (by exact Nat.le_of_ble_eq_true rfl) ?_
  intro p e s m args below meth c F hr ht0
  show am_W p l e rm_X9_activityBits s m args below meth c _ 2 D E z 0 0 M 0 [(0, .ref (z + 0)), (1, .int a1)] []
  refine am_aload_n F 0 dX9_activityBits_0 rfl rfl ?_
  refine am_iload_n F 1 dX9_activityBits_1 rfl rfl ?_
  obtain ⟨o3, M2, h1, h⟩ := am_bxE h
  refine am_xcallVv F ht0 [.int a1] lyk_0 (by decide) rfl cw_X9_93 (c_X9_demandRobot l hls D E z a1 M o3 M2 h1) yn_X9_demandRobot rfl ⟨Nat.le_of_ble_eq_true rfl, Nat.le_of_ble_eq_true rfl⟩ rfl rfl (Nat.le_of_ble_eq_true rfl) ⟨Nat.le_of_ble_eq_true rfl, Nat.le_of_ble_eq_true rfl⟩ ⟨Nat.le_of_ble_eq_true rfl, Nat.le_of_ble_eq_true rfl⟩ dX9_activityBits_2 rfl h (fun _ _ h => ?_)
  refine am_aload_n F 0 dX9_activityBits_5 rfl rfl ?_
  refine am_aload_n F 0 dX9_activityBits_6 rfl rfl ?_
  refine gf_X9_12 F lyk_0 dX9_activityBits_7 ?_
  refine am_iload_n F 1 dX9_activityBits_10 rfl rfl ?_
  obtain ⟨v6, M5, h4, h⟩ := am_bE h
  refine am_callVr F [.int a1] lyk_1 (by decide) rfl cw_X9_96 (c_X8_robotOf l D E z 1 lyk_1 a1 M2 v6 M5 h4) yn_X8_robotOf rfl ⟨Nat.le_of_ble_eq_true rfl, Nat.le_of_ble_eq_true rfl⟩ rfl rfl (Nat.le_of_ble_eq_true rfl) ⟨Nat.le_of_ble_eq_true rfl, Nat.le_of_ble_eq_true rfl⟩ dX9_activityBits_11 rfl ?_
  obtain ⟨o9, M8, h7, h⟩ := am_bxE h
  refine am_xcallVf F ht0 [.ref (z + v6)] lyk_0 (by decide) rfl cw_X9_307 (c_X9_activityOf l hls D E z v6 (q_X8_robotOf 1 lyk_1 a1 M2 v6 M5 h4) M5 o9 M8 h7) yn_X9_activityOf rfl ⟨Nat.le_of_ble_eq_true rfl, Nat.le_of_ble_eq_true rfl⟩ rfl rfl (Nat.le_of_ble_eq_true rfl) ⟨Nat.le_of_ble_eq_true rfl, Nat.le_of_ble_eq_true rfl⟩ ⟨Nat.le_of_ble_eq_true rfl, Nat.le_of_ble_eq_true rfl⟩ dX9_activityBits_14 rfl h (fun v10 _ h => ?_)
  obtain ⟨v13, M12, h11, h⟩ := am_bE h
  refine am_callSi F [.float v10] cw_X9_311 rfl (c_X9_bitsOf l D E z v10 M8 v13 M12 h11) yn_X9_bitsOf rfl ⟨Nat.le_of_ble_eq_true rfl, Nat.le_of_ble_eq_true rfl⟩ rfl rfl (Nat.le_of_ble_eq_true rfl) ⟨Nat.le_of_ble_eq_true rfl, Nat.le_of_ble_eq_true rfl⟩ dX9_activityBits_17 rfl ?_
  exact am_xiret F hr ⟨Nat.le_of_ble_eq_true rfl, Nat.le_of_ble_eq_true rfl⟩ h dX9_activityBits_20
/-! AisleScheduler.averageDelay()D -/
abbrev rm_X9_averageDelay : Room := { frames := 6, cells := 1, slots := 6, locals := 100 }
theorem yn_X9_averageDelay : am_yn yX9_averageDelay 0 := ⟨⟨by decide +kernel, by decide +kernel⟩, by decide +kernel⟩
def g_X9_averageDelay_L6  : Nat → Int32 → Int32 → Int32 → am_M → Option ((Int32 × Int32) × am_M)
  | 0, _, _, _, _ => none
  | n + 1, a1, a2, a3, M => (if (am_g M 1 3) ≤ a3 then (some ((a1, a2), M)) else (am_b (g_X8_taskOf 1 a3 M) (fun v3 M2 => (if (am_g M2 v3 5) = (2 : Int32) then (g_X9_averageDelay_L6  n (a1 + (1 : Int32)) (a2 + ((am_g M2 v3 8) - (if (am_g M2 v3 2) < (am_g M2 v3 4) then (am_g M2 v3 4) else (am_g M2 v3 2)))) (a3 + (1 : Int32)) M2) else (g_X9_averageDelay_L6  n a1 a2 (a3 + (1 : Int32)) M2)))))
set_option maxHeartbeats 4000000 in
set_option maxRecDepth 100000 in
theorem cl_X9_averageDelay_L6 {l : Launch} {p : Program} {e : Env} {s : State} {m : MethodId} {args : Array Value} {below : List Frame} {meth : Method} {c : Code} {Q : State → Prop} {D : va_G} {E : Nat → ClassId} {z : Nat} (F : am_F p s m args meth c cX9_averageDelay 5 RX9 D E z)  : ∀ (n : Nat) (a1 : Int32) (a2 : Int32) (a3 : Int32) (M : am_M) (x : Int32 × Int32) (M1 : am_M), g_X9_averageDelay_L6  n a1 a2 a3 M = some (x, M1) → (am_W p l e rm_X9_averageDelay s m args below meth c Q 5 D E z 0 0 M1 67 [(1, .int x.1), (2, .int x.2)] []) → am_W p l e rm_X9_averageDelay s m args below meth c Q 5 D E z 0 0 M 6 [(0, .ref (z + 0)), (1, .int a1), (2, .int a2), (3, .int a3)] [] := by
  intro n
  induction n with
  | zero => intro a1 a2 a3 M x M1 h K; cases h
  | succ n ih =>
    intro a1 a2 a3 M x M1 h K
    rw [g_X9_averageDelay_L6] at h
    refine am_iload_n F 3 dX9_averageDelay_6 rfl rfl ?_
    refine am_aload_n F 0 dX9_averageDelay_7 rfl rfl ?_
    refine gf_X9_12 F lyk_0 dX9_averageDelay_8 ?_
    refine gf_X9_139 F lyk_1 dX9_averageDelay_11 ?_
    refine am_icmp_ge F (tgt := 67) dX9_averageDelay_14 (by decide) (fun c5 => ?_) (fun c5 => ?_)
    · have h := (if_pos c5).symm.trans h
      cases h
      exact am_sub (lv' := [(1, .int a1), (2, .int a2)]) [1, 2] rfl (K)
    · have h := (if_neg c5).symm.trans h
      refine am_aload_n F 0 dX9_averageDelay_17 rfl rfl ?_
      refine gf_X9_12 F lyk_0 dX9_averageDelay_18 ?_
      refine am_iload_n F 3 dX9_averageDelay_21 rfl rfl ?_
      obtain ⟨v3, M2, h1, h⟩ := am_bE h
      refine am_callVr F [.int a3] lyk_1 (by decide) rfl cw_X9_240 (c_X8_taskOf l D E z 1 lyk_1 a3 M v3 M2 h1) yn_X8_taskOf rfl ⟨Nat.le_of_ble_eq_true rfl, Nat.le_of_ble_eq_true rfl⟩ rfl rfl (Nat.le_of_ble_eq_true rfl) ⟨Nat.le_of_ble_eq_true rfl, Nat.le_of_ble_eq_true rfl⟩ dX9_averageDelay_22 rfl ?_
      refine am_astore F [(4, .ref (z + v3)), (0, .ref (z + 0)), (1, .int a1), (2, .int a2), (3, .int a3)] dX9_averageDelay_25 (by decide) rfl ?_
      refine am_aload F 0 dX9_averageDelay_27 rfl ?_
      refine gf_X9_265 F (q_X8_taskOf 1 lyk_1 a3 M v3 M2 h1) dX9_averageDelay_29 ?_
      refine am_iconst F (v := (2 : Int32)) dX9_averageDelay_32 (by decide) ?_
      refine am_icmp_ne F (tgt := 61) dX9_averageDelay_33 (by decide) (fun c4 => ?_) (fun c4 => ?_)
      · have h := (if_neg c4).symm.trans h
        refine am_iinc F [(3, .int (a3 + (1 : Int32))), (4, .ref (z + v3)), (0, .ref (z + 0)), (1, .int a1), (2, .int a2)] 4 dX9_averageDelay_61 (by decide) rfl rfl rfl ?_
        refine am_goto F (tgt := 6) dX9_averageDelay_64 (by decide) ?_
        exact am_sub (lv' := [(0, .ref (z + 0)), (1, .int a1), (2, .int a2), (3, .int (a3 + (1 : Int32)))]) [2, 3, 4, 0] rfl (ih a1 a2 (a3 + (1 : Int32)) M2 _ _ h K)
      · have h := (if_pos c4).symm.trans h
        refine am_iinc F [(1, .int (a1 + (1 : Int32))), (4, .ref (z + v3)), (0, .ref (z + 0)), (2, .int a2), (3, .int a3)] 2 dX9_averageDelay_36 (by decide) rfl rfl rfl ?_
        refine am_iload_n F 3 dX9_averageDelay_39 rfl rfl ?_
        refine am_aload F 1 dX9_averageDelay_40 rfl ?_
        refine gf_X9_274 F (q_X8_taskOf 1 lyk_1 a3 M v3 M2 h1) dX9_averageDelay_42 ?_
        refine am_aload F 1 dX9_averageDelay_45 rfl ?_
        refine gf_X9_283 F (q_X8_taskOf 1 lyk_1 a3 M v3 M2 h1) dX9_averageDelay_47 ?_
        refine am_aload F 1 dX9_averageDelay_50 rfl ?_
        refine gf_X9_315 F (q_X8_taskOf 1 lyk_1 a3 M v3 M2 h1) dX9_averageDelay_52 ?_
        refine am_max F dX9_averageDelay_55 wd_801 (Nat.le_of_ble_eq_true rfl) (Nat.le_of_ble_eq_true rfl) (Nat.le_of_ble_eq_true rfl) (Nat.le_of_ble_eq_true rfl) ?_
        refine am_isub F dX9_averageDelay_58 ?_
        refine am_iadd F dX9_averageDelay_59 ?_
        refine am_istore_n F [(2, .int (a2 + ((am_g M2 v3 8) - (if (am_g M2 v3 2) < (am_g M2 v3 4) then (am_g M2 v3 4) else (am_g M2 v3 2))))), (1, .int (a1 + (1 : Int32))), (4, .ref (z + v3)), (0, .ref (z + 0)), (3, .int a3)] dX9_averageDelay_60 rfl (by decide) rfl ?_
        refine am_iinc F [(3, .int (a3 + (1 : Int32))), (2, .int (a2 + ((am_g M2 v3 8) - (if (am_g M2 v3 2) < (am_g M2 v3 4) then (am_g M2 v3 4) else (am_g M2 v3 2))))), (1, .int (a1 + (1 : Int32))), (4, .ref (z + v3)), (0, .ref (z + 0))] 4 dX9_averageDelay_61 (by decide) rfl rfl rfl ?_
        refine am_goto F (tgt := 6) dX9_averageDelay_64 (by decide) ?_
        exact am_sub (lv' := [(0, .ref (z + 0)), (1, .int (a1 + (1 : Int32))), (2, .int (a2 + ((am_g M2 v3 8) - (if (am_g M2 v3 2) < (am_g M2 v3 4) then (am_g M2 v3 4) else (am_g M2 v3 2))))), (3, .int (a3 + (1 : Int32)))]) [4, 2, 1, 0] rfl (ih (a1 + (1 : Int32)) (a2 + ((am_g M2 v3 8) - (if (am_g M2 v3 2) < (am_g M2 v3 4) then (am_g M2 v3 4) else (am_g M2 v3 2)))) (a3 + (1 : Int32)) M2 _ _ h K)
def g_X9_averageDelay  (M : am_M) : Option ((UInt64 ⊕ Nat) × am_M) := (am_b (g_X9_averageDelay_L6  am_fu (0 : Int32) (0 : Int32) (0 : Int32) M) (fun x6 M7 => (if x6.1 = (0 : Int32) then (some ((.inr 6 : UInt64 ⊕ Nat), M7)) else (am_c ((FP.ddiv (FP.i2d x6.2) (FP.i2d x6.1)) &&& 0x7fffffffffffffff ≤ 0x7ff0000000000000) (some ((.inl (FP.ddiv (FP.i2d x6.2) (FP.i2d x6.1)) : UInt64 ⊕ Nat), M7))))))
set_option maxHeartbeats 4000000 in
set_option maxRecDepth 100000 in
theorem c_X9_averageDelay (l : Launch) (hls : l.stackTraces = false) (D : va_G) (E : Nat → ClassId) (z : Nat)  (M : am_M) (o : UInt64 ⊕ Nat) (M1 : am_M) (h : g_X9_averageDelay  M = some (o, M1)) : am_Xd l yX9_averageDelay cX9_averageDelay 5 (some .double) rm_X9_averageDelay D E z [.ref (z + 0)] M 1 6 o M1 := by
  unfold g_X9_averageDelay at h
  refine am_xof (own := RX9) (by decide +kernel) rfl (by exact Nat.le_of_ble_eq_true rfl) ?_
  intro p e s m args below meth c F hr ht0
  show am_W p l e rm_X9_averageDelay s m args below meth c _ 5 D E z 0 0 M 0 [(0, .ref (z + 0))] []
  refine am_iconst F (v := (0 : Int32)) dX9_averageDelay_0 (by decide) ?_
  refine am_istore_n F [(1, .int (0 : Int32)), (0, .ref (z + 0))] dX9_averageDelay_1 rfl (by decide) rfl ?_
  refine am_iconst F (v := (0 : Int32)) dX9_averageDelay_2 (by decide) ?_
  refine am_istore_n F [(2, .int (0 : Int32)), (1, .int (0 : Int32)), (0, .ref (z + 0))] dX9_averageDelay_3 rfl (by decide) rfl ?_
  refine am_iconst F (v := (0 : Int32)) dX9_averageDelay_4 (by decide) ?_
  refine am_istore_n F [(3, .int (0 : Int32)), (2, .int (0 : Int32)), (1, .int (0 : Int32)), (0, .ref (z + 0))] dX9_averageDelay_5 rfl (by decide) rfl ?_
  obtain ⟨x6, M7, h8, h⟩ := am_bE h
  refine am_sub (lv' := [(0, .ref (z + 0)), (1, .int (0 : Int32)), (2, .int (0 : Int32)), (3, .int (0 : Int32))]) [3, 2, 1, 0] rfl (cl_X9_averageDelay_L6 F  am_fu (0 : Int32) (0 : Int32) (0 : Int32) M x6 M7 h8 ?_)
  refine am_iload_n F 0 dX9_averageDelay_67 rfl rfl ?_
  refine am_if_ne F (tgt := 82) dX9_averageDelay_68 (by decide) (fun c10 => ?_) (fun c10 => ?_)
  · have h := (if_neg c10).symm.trans h
    refine am_iload_n F 1 dX9_averageDelay_82 rfl rfl ?_
    refine am_i2d F dX9_averageDelay_83 ?_
    refine am_iload_n F 0 dX9_averageDelay_84 rfl rfl ?_
    refine am_i2d F dX9_averageDelay_85 ?_
    obtain ⟨q9, h⟩ := am_cE h
    refine am_ddiv F dX9_averageDelay_86 q9 ?_
    exact am_xdret F hr ⟨Nat.le_of_ble_eq_true rfl, Nat.le_of_ble_eq_true rfl⟩ h dX9_averageDelay_87
  · have h := (if_pos c10).symm.trans h
    exact am_throwW F ht0 hls xt_X9_318_320_322 ⟨Nat.le_of_ble_eq_true rfl, Nat.le_of_ble_eq_true rfl, Nat.le_of_ble_eq_true rfl, Nat.le_of_ble_eq_true rfl⟩ ⟨Nat.le_of_ble_eq_true rfl, Nat.le_of_ble_eq_true rfl⟩ h dX9_averageDelay_71 dX9_averageDelay_74 dX9_averageDelay_75 dX9_averageDelay_78 dX9_averageDelay_81
/-! AisleScheduler.visits(I)I -/
abbrev rm_X9_visits : Room := { frames := 7, cells := 1, slots := 6, locals := 120 }
theorem yn_X9_visits : am_yn yX9_visits 1 := ⟨⟨by decide +kernel, by decide +kernel⟩, by decide +kernel⟩
def g_X9_visits (a1 : Int32) (M : am_M) : Option ((Int32 ⊕ Nat) × am_M) := (am_bx (g_X9_demandCell a1 M) (fun _ M2 => (am_b (g_X9_at (1 + 6) 40 a1 M2) (fun v6 M5 => (some ((.inl v6 : Int32 ⊕ Nat), M5))))))
set_option maxHeartbeats 4000000 in
set_option maxRecDepth 100000 in
theorem c_X9_visits (l : Launch) (hls : l.stackTraces = false) (D : va_G) (E : Nat → ClassId) (z : Nat) (a1 : Int32) (M : am_M) (o : Int32 ⊕ Nat) (M1 : am_M) (h : g_X9_visits a1 M = some (o, M1)) : am_Xi l yX9_visits cX9_visits 2 (some .int) rm_X9_visits D E z [.ref (z + 0), .int a1] M 1 6 o M1 := by
  unfold g_X9_visits at h
  refine am_xof (own := RX9) (by decide +kernel) rfl (by exact Nat.le_of_ble_eq_true rfl) ?_
  intro p e s m args below meth c F hr ht0
  show am_W p l e rm_X9_visits s m args below meth c _ 2 D E z 0 0 M 0 [(0, .ref (z + 0)), (1, .int a1)] []
  refine am_iload_n F 1 dX9_visits_0 rfl rfl ?_
  obtain ⟨o3, M2, h1, h⟩ := am_bxE h
  refine am_xcallSv F ht0 [.int a1] cw_X9_81 rfl (c_X9_demandCell l hls D E z a1 M o3 M2 h1) yn_X9_demandCell rfl ⟨Nat.le_of_ble_eq_true rfl, Nat.le_of_ble_eq_true rfl⟩ rfl rfl (Nat.le_of_ble_eq_true rfl) ⟨Nat.le_of_ble_eq_true rfl, Nat.le_of_ble_eq_true rfl⟩ ⟨Nat.le_of_ble_eq_true rfl, Nat.le_of_ble_eq_true rfl⟩ dX9_visits_1 rfl h (fun _ _ h => ?_)
  refine am_aload_n F 0 dX9_visits_4 rfl rfl ?_
  refine gf_X9_12 F lyk_0 dX9_visits_5 ?_
  refine gf_X9_323 F lyk_1 dX9_visits_8 ?_
  refine am_iload_n F 1 dX9_visits_11 rfl rfl ?_
  obtain ⟨v6, M5, h4, h⟩ := am_bE h
  refine am_callSi F [.ref (z + (1 + 6)), .int a1] cw_X9_69 rfl (c_X9_at l D E z (1 + 6) 40 (lyf_8_visitCounts lyk_1) a1 M2 v6 M5 h4) yn_X9_at rfl ⟨Nat.le_of_ble_eq_true rfl, Nat.le_of_ble_eq_true rfl⟩ rfl rfl (Nat.le_of_ble_eq_true rfl) ⟨Nat.le_of_ble_eq_true rfl, Nat.le_of_ble_eq_true rfl⟩ dX9_visits_12 rfl ?_
  exact am_xiret F hr ⟨Nat.le_of_ble_eq_true rfl, Nat.le_of_ble_eq_true rfl⟩ h dX9_visits_15
/-! AisleScheduler.demandPlace(II)V -/
abbrev rm_X9_demandPlace : Room := { frames := 6, cells := 1, slots := 6, locals := 100 }
theorem yn_X9_demandPlace : am_yn yX9_demandPlace 2 := ⟨⟨by decide +kernel, by decide +kernel⟩, by decide +kernel⟩
def g_X9_demandPlace (a0 : Int32) (a1 : Int32) (M : am_M) : Option ((Unit ⊕ Nat) × am_M) := (if a0 < (0 : Int32) then (some ((.inr 1 : Unit ⊕ Nat), M)) else (if (2 : Int32) ≤ a0 then (some ((.inr 1 : Unit ⊕ Nat), M)) else (if a1 < (0 : Int32) then (some ((.inr 1 : Unit ⊕ Nat), M)) else (if a1 < (3 : Int32) then (some ((.inl () : Unit ⊕ Nat), M)) else (some ((.inr 1 : Unit ⊕ Nat), M))))))
set_option maxHeartbeats 4000000 in
set_option maxRecDepth 100000 in
theorem c_X9_demandPlace (l : Launch) (hls : l.stackTraces = false) (D : va_G) (E : Nat → ClassId) (z : Nat) (a0 : Int32) (a1 : Int32) (M : am_M) (o : Unit ⊕ Nat) (M1 : am_M) (h : g_X9_demandPlace a0 a1 M = some (o, M1)) : am_Xv l yX9_demandPlace cX9_demandPlace 2 none rm_X9_demandPlace D E z [.int a0, .int a1] M 1 6 o M1 := by
  unfold g_X9_demandPlace at h
  refine am_xof (own := RX9) (by decide +kernel) rfl (by exact Nat.le_of_ble_eq_true rfl) ?_
  intro p e s m args below meth c F hr ht0
  show am_W p l e rm_X9_demandPlace s m args below meth c _ 2 D E z 0 0 M 0 [(0, .int a0), (1, .int a1)] []
  refine am_iload_n F 0 dX9_demandPlace_0 rfl rfl ?_
  refine am_if_lt F (tgt := 18) dX9_demandPlace_1 (by decide) (fun c4 => ?_) (fun c4 => ?_)
  · have h := (if_pos c4).symm.trans h
    exact am_throwW F ht0 hls xt_X9_395_413_399 ⟨Nat.le_of_ble_eq_true rfl, Nat.le_of_ble_eq_true rfl, Nat.le_of_ble_eq_true rfl, Nat.le_of_ble_eq_true rfl⟩ ⟨Nat.le_of_ble_eq_true rfl, Nat.le_of_ble_eq_true rfl⟩ h dX9_demandPlace_18 dX9_demandPlace_21 dX9_demandPlace_22 dX9_demandPlace_25 dX9_demandPlace_28
  · have h := (if_neg c4).symm.trans h
    refine am_iload_n F 0 dX9_demandPlace_4 rfl rfl ?_
    refine am_iconst F (v := (2 : Int32)) dX9_demandPlace_5 (by decide) ?_
    refine am_icmp_ge F (tgt := 18) dX9_demandPlace_6 (by decide) (fun c3 => ?_) (fun c3 => ?_)
    · have h := (if_pos c3).symm.trans h
      exact am_throwW F ht0 hls xt_X9_395_413_399 ⟨Nat.le_of_ble_eq_true rfl, Nat.le_of_ble_eq_true rfl, Nat.le_of_ble_eq_true rfl, Nat.le_of_ble_eq_true rfl⟩ ⟨Nat.le_of_ble_eq_true rfl, Nat.le_of_ble_eq_true rfl⟩ h dX9_demandPlace_18 dX9_demandPlace_21 dX9_demandPlace_22 dX9_demandPlace_25 dX9_demandPlace_28
    · have h := (if_neg c3).symm.trans h
      refine am_iload_n F 1 dX9_demandPlace_9 rfl rfl ?_
      refine am_if_lt F (tgt := 18) dX9_demandPlace_10 (by decide) (fun c2 => ?_) (fun c2 => ?_)
      · have h := (if_pos c2).symm.trans h
        exact am_throwW F ht0 hls xt_X9_395_413_399 ⟨Nat.le_of_ble_eq_true rfl, Nat.le_of_ble_eq_true rfl, Nat.le_of_ble_eq_true rfl, Nat.le_of_ble_eq_true rfl⟩ ⟨Nat.le_of_ble_eq_true rfl, Nat.le_of_ble_eq_true rfl⟩ h dX9_demandPlace_18 dX9_demandPlace_21 dX9_demandPlace_22 dX9_demandPlace_25 dX9_demandPlace_28
      · have h := (if_neg c2).symm.trans h
        refine am_iload_n F 1 dX9_demandPlace_13 rfl rfl ?_
        refine am_iconst F (v := (3 : Int32)) dX9_demandPlace_14 (by decide) ?_
        refine am_icmp_lt F (tgt := 29) dX9_demandPlace_15 (by decide) (fun c1 => ?_) (fun c1 => ?_)
        · have h := (if_pos c1).symm.trans h
          exact am_xvret F hr ⟨Nat.le_of_ble_eq_true rfl, Nat.le_of_ble_eq_true rfl⟩ h dX9_demandPlace_29
        · have h := (if_neg c1).symm.trans h
          exact am_throwW F ht0 hls xt_X9_395_413_399 ⟨Nat.le_of_ble_eq_true rfl, Nat.le_of_ble_eq_true rfl, Nat.le_of_ble_eq_true rfl, Nat.le_of_ble_eq_true rfl⟩ ⟨Nat.le_of_ble_eq_true rfl, Nat.le_of_ble_eq_true rfl⟩ h dX9_demandPlace_18 dX9_demandPlace_21 dX9_demandPlace_22 dX9_demandPlace_25 dX9_demandPlace_28
