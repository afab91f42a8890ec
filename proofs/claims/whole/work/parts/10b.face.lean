/-! printed by wip/whole/drive.py -/
/-! AisleScheduler.sample(III)I -/
abbrev rm_X9_sample : Room := { frames := 7, cells := 3, slots := 18, locals := 121 }
theorem yn_X9_sample : am_yn yX9_sample 3 := ⟨⟨by decide +kernel, by decide +kernel⟩, by decide +kernel⟩
def g_X9_sample (a1 : Int32) (a2 : Int32) (a3 : Int32) (M : am_M) : Option ((Int32 ⊕ Nat) × am_M) := (am_bx (g_X9_demandPlace a1 a2 M) (fun _ M2 => (am_bx (g_X9_demandRobot a3 M2) (fun _ M5 => (if a1 = (0 : Int32) then (am_b (g_X8_isIdle 1 a3 M5) (fun v20 M19 => (if v20 = (0 : Int32) then (some ((.inr 5 : Int32 ⊕ Nat), M19)) else (am_b (g_X8_robotOf 1 a3 M19) (fun v23 M22 => (am_b (g_X2_placeAt (v23 + 1) (am_g M22 1 4) M22) (fun v26 M25 => (am_b (g_X6_store ((a1 * (3 : Int32)) + a2) a3 (if v26 < (-1 : Int32) then (-1 : Int32) else v26) (am_g M25 v23 2) (am_g M25 1 4) M25) (fun _ M28 => (am_b (g_X6_held a1 M28) (fun v31 M30 => (some ((.inl v31 : Int32 ⊕ Nat), M30))))))))))))) else (am_b (g_X8_robotOf 1 a3 M5) (fun v9 M8 => (am_b (g_X2_placeAt (v9 + 1) (am_g M8 1 4) M8) (fun v12 M11 => (am_b (g_X6_store ((a1 * (3 : Int32)) + a2) a3 (if v12 < (-1 : Int32) then (-1 : Int32) else v12) (am_g M11 v9 2) (am_g M11 1 4) M11) (fun _ M14 => (am_b (g_X6_held a1 M14) (fun v17 M16 => (some ((.inl v17 : Int32 ⊕ Nat), M16)))))))))))))))
set_option maxHeartbeats 4000000 in
set_option maxRecDepth 100000 in
theorem c_X9_sample (l : Launch) (hls : l.stackTraces = false) (D : va_G) (E : Nat → ClassId) (z : Nat) (a1 : Int32) (a2 : Int32) (a3 : Int32) (M : am_M) (o : Int32 ⊕ Nat) (M1 : am_M) (h : g_X9_sample a1 a2 a3 M = some (o, M1)) : am_Xi l yX9_sample cX9_sample 6 (some .int) rm_X9_sample D E z [.ref (z + 0), .int a1, .int a2, .int a3] M 3 18 o M1 := by
  unfold g_X9_sample at h
  refine am_xof (own := RX9) (by decide +kernel) rfl (by exact Nat.le_of_ble_eq_true rfl) ?_
  intro p e s m args below meth c F hr ht0
  show am_W p l e rm_X9_sample s m args below meth c _ 6 D E z 0 0 M 0 [(0, .ref (z + 0)), (1, .int a1), (2, .int a2), (3, .int a3)] []
  refine am_iload_n F 1 dX9_sample_0 rfl rfl ?_
  refine am_iload_n F 2 dX9_sample_1 rfl rfl ?_
  obtain ⟨o3, M2, h1, h⟩ := am_bxE h
  refine am_xcallSv F ht0 [.int a1, .int a2] cw_X9_326 rfl (c_X9_demandPlace l hls D E z a1 a2 M o3 M2 h1) yn_X9_demandPlace rfl ⟨Nat.le_of_ble_eq_true rfl, Nat.le_of_ble_eq_true rfl⟩ rfl rfl (Nat.le_of_ble_eq_true rfl) ⟨Nat.le_of_ble_eq_true rfl, Nat.le_of_ble_eq_true rfl⟩ ⟨Nat.le_of_ble_eq_true rfl, Nat.le_of_ble_eq_true rfl⟩ dX9_sample_2 rfl h (fun _ _ h => ?_)
  refine am_aload_n F 0 dX9_sample_5 rfl rfl ?_
  refine am_iload_n F 3 dX9_sample_6 rfl rfl ?_
  obtain ⟨o6, M5, h4, h⟩ := am_bxE h
  refine am_xcallVv F ht0 [.int a3] lyk_0 (by decide) rfl cw_X9_93 (c_X9_demandRobot l hls D E z a3 M2 o6 M5 h4) yn_X9_demandRobot rfl ⟨Nat.le_of_ble_eq_true rfl, Nat.le_of_ble_eq_true rfl⟩ rfl rfl (Nat.le_of_ble_eq_true rfl) ⟨Nat.le_of_ble_eq_true rfl, Nat.le_of_ble_eq_true rfl⟩ ⟨Nat.le_of_ble_eq_true rfl, Nat.le_of_ble_eq_true rfl⟩ dX9_sample_7 rfl h (fun _ _ h => ?_)
  refine am_iload_n F 1 dX9_sample_10 rfl rfl ?_
  refine am_if_ne F (tgt := 36) dX9_sample_11 (by decide) (fun c33 => ?_) (fun c33 => ?_)
  · have h := (if_neg c33).symm.trans h
    refine am_aload_n F 0 dX9_sample_36 rfl rfl ?_
    refine gf_X9_12 F lyk_0 dX9_sample_37 ?_
    refine am_iload_n F 3 dX9_sample_40 rfl rfl ?_
    obtain ⟨v9, M8, h7, h⟩ := am_bE h
    refine am_callVr F [.int a3] lyk_1 (by decide) rfl cw_X9_96 (c_X8_robotOf l D E z 1 lyk_1 a3 M5 v9 M8 h7) yn_X8_robotOf rfl ⟨Nat.le_of_ble_eq_true rfl, Nat.le_of_ble_eq_true rfl⟩ rfl rfl (Nat.le_of_ble_eq_true rfl) ⟨Nat.le_of_ble_eq_true rfl, Nat.le_of_ble_eq_true rfl⟩ dX9_sample_41 rfl ?_
    refine am_astore F [(4, .ref (z + v9)), (0, .ref (z + 0)), (1, .int a1), (2, .int a2), (3, .int a3)] dX9_sample_44 (by decide) rfl ?_
    refine am_aload F 0 dX9_sample_46 rfl ?_
    refine gf_X9_100 F (q_X8_robotOf 1 lyk_1 a3 M5 v9 M8 h7) dX9_sample_48 ?_
    refine am_aload_n F 1 dX9_sample_51 rfl rfl ?_
    refine gf_X9_12 F lyk_0 dX9_sample_52 ?_
    refine gf_X9_106 F lyk_1 dX9_sample_55 ?_
    obtain ⟨v12, M11, h10, h⟩ := am_bE h
    refine am_callVi F [.int (am_g M8 1 4)] (lyf_4_plan (q_X8_robotOf 1 lyk_1 a3 M5 v9 M8 h7)) (by decide) rfl cw_X9_109 (c_X2_placeAt l D E z (v9 + 1) (lyf_4_plan (q_X8_robotOf 1 lyk_1 a3 M5 v9 M8 h7)) (am_g M8 1 4) M8 v12 M11 h10) yn_X2_placeAt rfl ⟨Nat.le_of_ble_eq_true rfl, Nat.le_of_ble_eq_true rfl⟩ rfl rfl (Nat.le_of_ble_eq_true rfl) ⟨Nat.le_of_ble_eq_true rfl, Nat.le_of_ble_eq_true rfl⟩ dX9_sample_58 rfl ?_
    refine am_iconst F (v := (-1 : Int32)) dX9_sample_61 (by decide) ?_
    refine am_max F dX9_sample_62 wd_801 (Nat.le_of_ble_eq_true rfl) (Nat.le_of_ble_eq_true rfl) (Nat.le_of_ble_eq_true rfl) (Nat.le_of_ble_eq_true rfl) ?_
    refine am_istore F [(5, .int (if v12 < (-1 : Int32) then (-1 : Int32) else v12)), (4, .ref (z + v9)), (0, .ref (z + 0)), (1, .int a1), (2, .int a2), (3, .int a3)] dX9_sample_65 (by decide) rfl ?_
    refine am_aload_n F 2 dX9_sample_67 rfl rfl ?_
    refine gf_X9_34 F lyk_0 dX9_sample_68 ?_
    refine am_iload_n F 3 dX9_sample_71 rfl rfl ?_
    refine am_iconst F (v := (3 : Int32)) dX9_sample_72 (by decide) ?_
    refine am_imul F dX9_sample_73 ?_
    refine am_iload_n F 4 dX9_sample_74 rfl rfl ?_
    refine am_iadd F dX9_sample_75 ?_
    refine am_iload_n F 5 dX9_sample_76 rfl rfl ?_
    refine am_iload F 0 dX9_sample_77 rfl ?_
    refine am_aload F 1 dX9_sample_79 rfl ?_
    refine gf_X9_120 F (q_X8_robotOf 1 lyk_1 a3 M5 v9 M8 h7) dX9_sample_81 ?_
    refine am_aload_n F 2 dX9_sample_84 rfl rfl ?_
    refine gf_X9_12 F lyk_0 dX9_sample_85 ?_
    refine gf_X9_106 F lyk_1 dX9_sample_88 ?_
    obtain ⟨_, M14, h13, h⟩ := am_bE h
    refine am_callVv F [.int ((a1 * (3 : Int32)) + a2), .int a3, .int (if v12 < (-1 : Int32) then (-1 : Int32) else v12), .int (am_g M11 v9 2), .int (am_g M11 1 4)] lyk_166 (by decide) rfl cw_X9_334 (c_X6_store l D E z ((a1 * (3 : Int32)) + a2) a3 (if v12 < (-1 : Int32) then (-1 : Int32) else v12) (am_g M11 v9 2) (am_g M11 1 4) M11 M14 h13) yn_X6_store rfl ⟨Nat.le_of_ble_eq_true rfl, Nat.le_of_ble_eq_true rfl⟩ rfl rfl (Nat.le_of_ble_eq_true rfl) ⟨Nat.le_of_ble_eq_true rfl, Nat.le_of_ble_eq_true rfl⟩ dX9_sample_91 rfl ?_
    refine am_aload_n F 2 dX9_sample_94 rfl rfl ?_
    refine gf_X9_34 F lyk_0 dX9_sample_95 ?_
    refine am_iload_n F 3 dX9_sample_98 rfl rfl ?_
    obtain ⟨v17, M16, h15, h⟩ := am_bE h
    refine am_callVi F [.int a1] lyk_166 (by decide) rfl cw_X9_337 (c_X6_held l D E z a1 M14 v17 M16 h15) yn_X6_held rfl ⟨Nat.le_of_ble_eq_true rfl, Nat.le_of_ble_eq_true rfl⟩ rfl rfl (Nat.le_of_ble_eq_true rfl) ⟨Nat.le_of_ble_eq_true rfl, Nat.le_of_ble_eq_true rfl⟩ dX9_sample_99 rfl ?_
    exact am_xiret F hr ⟨Nat.le_of_ble_eq_true rfl, Nat.le_of_ble_eq_true rfl⟩ h dX9_sample_102
  · have h := (if_pos c33).symm.trans h
    refine am_aload_n F 0 dX9_sample_14 rfl rfl ?_
    refine gf_X9_12 F lyk_0 dX9_sample_15 ?_
    refine am_iload_n F 3 dX9_sample_18 rfl rfl ?_
    obtain ⟨v20, M19, h18, h⟩ := am_bE h
    refine am_callVi F [.int a3] lyk_1 (by decide) rfl cw_X9_329 (c_X8_isIdle l D E z 1 lyk_1 a3 M5 v20 M19 h18) yn_X8_isIdle rfl ⟨Nat.le_of_ble_eq_true rfl, Nat.le_of_ble_eq_true rfl⟩ rfl rfl (Nat.le_of_ble_eq_true rfl) ⟨Nat.le_of_ble_eq_true rfl, Nat.le_of_ble_eq_true rfl⟩ dX9_sample_19 rfl ?_
    refine am_if_ne F (tgt := 36) dX9_sample_22 (by decide) (fun c32 => ?_) (fun c32 => ?_)
    · have h := (if_neg c32).symm.trans h
      refine am_aload_n F 0 dX9_sample_36 rfl rfl ?_
      refine gf_X9_12 F lyk_0 dX9_sample_37 ?_
      refine am_iload_n F 3 dX9_sample_40 rfl rfl ?_
      obtain ⟨v23, M22, h21, h⟩ := am_bE h
      refine am_callVr F [.int a3] lyk_1 (by decide) rfl cw_X9_96 (c_X8_robotOf l D E z 1 lyk_1 a3 M19 v23 M22 h21) yn_X8_robotOf rfl ⟨Nat.le_of_ble_eq_true rfl, Nat.le_of_ble_eq_true rfl⟩ rfl rfl (Nat.le_of_ble_eq_true rfl) ⟨Nat.le_of_ble_eq_true rfl, Nat.le_of_ble_eq_true rfl⟩ dX9_sample_41 rfl ?_
      refine am_astore F [(4, .ref (z + v23)), (0, .ref (z + 0)), (1, .int a1), (2, .int a2), (3, .int a3)] dX9_sample_44 (by decide) rfl ?_
      refine am_aload F 0 dX9_sample_46 rfl ?_
      refine gf_X9_100 F (q_X8_robotOf 1 lyk_1 a3 M19 v23 M22 h21) dX9_sample_48 ?_
      refine am_aload_n F 1 dX9_sample_51 rfl rfl ?_
      refine gf_X9_12 F lyk_0 dX9_sample_52 ?_
      refine gf_X9_106 F lyk_1 dX9_sample_55 ?_
      obtain ⟨v26, M25, h24, h⟩ := am_bE h
      refine am_callVi F [.int (am_g M22 1 4)] (lyf_4_plan (q_X8_robotOf 1 lyk_1 a3 M19 v23 M22 h21)) (by decide) rfl cw_X9_109 (c_X2_placeAt l D E z (v23 + 1) (lyf_4_plan (q_X8_robotOf 1 lyk_1 a3 M19 v23 M22 h21)) (am_g M22 1 4) M22 v26 M25 h24) yn_X2_placeAt rfl ⟨Nat.le_of_ble_eq_true rfl, Nat.le_of_ble_eq_true rfl⟩ rfl rfl (Nat.le_of_ble_eq_true rfl) ⟨Nat.le_of_ble_eq_true rfl, Nat.le_of_ble_eq_true rfl⟩ dX9_sample_58 rfl ?_
      refine am_iconst F (v := (-1 : Int32)) dX9_sample_61 (by decide) ?_
      refine am_max F dX9_sample_62 wd_801 (Nat.le_of_ble_eq_true rfl) (Nat.le_of_ble_eq_true rfl) (Nat.le_of_ble_eq_true rfl) (Nat.le_of_ble_eq_true rfl) ?_
      refine am_istore F [(5, .int (if v26 < (-1 : Int32) then (-1 : Int32) else v26)), (4, .ref (z + v23)), (0, .ref (z + 0)), (1, .int a1), (2, .int a2), (3, .int a3)] dX9_sample_65 (by decide) rfl ?_
      refine am_aload_n F 2 dX9_sample_67 rfl rfl ?_
      refine gf_X9_34 F lyk_0 dX9_sample_68 ?_
      refine am_iload_n F 3 dX9_sample_71 rfl rfl ?_
      refine am_iconst F (v := (3 : Int32)) dX9_sample_72 (by decide) ?_
      refine am_imul F dX9_sample_73 ?_
      refine am_iload_n F 4 dX9_sample_74 rfl rfl ?_
      refine am_iadd F dX9_sample_75 ?_
      refine am_iload_n F 5 dX9_sample_76 rfl rfl ?_
      refine am_iload F 0 dX9_sample_77 rfl ?_
      refine am_aload F 1 dX9_sample_79 rfl ?_
      refine gf_X9_120 F (q_X8_robotOf 1 lyk_1 a3 M19 v23 M22 h21) dX9_sample_81 ?_
      refine am_aload_n F 2 dX9_sample_84 rfl rfl ?_
      refine gf_X9_12 F lyk_0 dX9_sample_85 ?_
      refine gf_X9_106 F lyk_1 dX9_sample_88 ?_
      obtain ⟨_, M28, h27, h⟩ := am_bE h
      refine am_callVv F [.int ((a1 * (3 : Int32)) + a2), .int a3, .int (if v26 < (-1 : Int32) then (-1 : Int32) else v26), .int (am_g M25 v23 2), .int (am_g M25 1 4)] lyk_166 (by decide) rfl cw_X9_334 (c_X6_store l D E z ((a1 * (3 : Int32)) + a2) a3 (if v26 < (-1 : Int32) then (-1 : Int32) else v26) (am_g M25 v23 2) (am_g M25 1 4) M25 M28 h27) yn_X6_store rfl ⟨Nat.le_of_ble_eq_true rfl, Nat.le_of_ble_eq_true rfl⟩ rfl rfl (Nat.le_of_ble_eq_true rfl) ⟨Nat.le_of_ble_eq_true rfl, Nat.le_of_ble_eq_true rfl⟩ dX9_sample_91 rfl ?_
      refine am_aload_n F 2 dX9_sample_94 rfl rfl ?_
      refine gf_X9_34 F lyk_0 dX9_sample_95 ?_
      refine am_iload_n F 3 dX9_sample_98 rfl rfl ?_
      obtain ⟨v31, M30, h29, h⟩ := am_bE h
      refine am_callVi F [.int a1] lyk_166 (by decide) rfl cw_X9_337 (c_X6_held l D E z a1 M28 v31 M30 h29) yn_X6_held rfl ⟨Nat.le_of_ble_eq_true rfl, Nat.le_of_ble_eq_true rfl⟩ rfl rfl (Nat.le_of_ble_eq_true rfl) ⟨Nat.le_of_ble_eq_true rfl, Nat.le_of_ble_eq_true rfl⟩ dX9_sample_99 rfl ?_
      exact am_xiret F hr ⟨Nat.le_of_ble_eq_true rfl, Nat.le_of_ble_eq_true rfl⟩ h dX9_sample_102
    · have h := (if_pos c32).symm.trans h
      exact am_throwW F ht0 hls xt_X9_165_332_169 ⟨Nat.le_of_ble_eq_true rfl, Nat.le_of_ble_eq_true rfl, Nat.le_of_ble_eq_true rfl, Nat.le_of_ble_eq_true rfl⟩ ⟨Nat.le_of_ble_eq_true rfl, Nat.le_of_ble_eq_true rfl⟩ h dX9_sample_25 dX9_sample_28 dX9_sample_29 dX9_sample_32 dX9_sample_35
/-! AisleScheduler.sampled(III)I -/
abbrev rm_X9_sampled : Room := { frames := 7, cells := 2, slots := 12, locals := 121 }
theorem yn_X9_sampled : am_yn yX9_sampled 3 := ⟨⟨by decide +kernel, by decide +kernel⟩, by decide +kernel⟩
def g_X9_sampled (a1 : Int32) (a2 : Int32) (a3 : Int32) (M : am_M) : Option ((Int32 ⊕ Nat) × am_M) := (am_bx (g_X9_demandPlace a1 a2 M) (fun _ M2 => (if a3 < (0 : Int32) then (some ((.inr 2 : Int32 ⊕ Nat), M2)) else (if a3 < (4 : Int32) then (am_b (g_X9_at 167 6 ((a1 * (3 : Int32)) + a2) M2) (fun v6 M5 => (if v6 = (0 : Int32) then (some ((.inr 4 : Int32 ⊕ Nat), M5)) else (am_b (g_X9_at 168 24 ((((a1 * (3 : Int32)) + a2) * (4 : Int32)) + a3) M5) (fun v9 M8 => (some ((.inl v9 : Int32 ⊕ Nat), M8))))))) else (some ((.inr 2 : Int32 ⊕ Nat), M2))))))
set_option maxHeartbeats 4000000 in
set_option maxRecDepth 100000 in
theorem c_X9_sampled (l : Launch) (hls : l.stackTraces = false) (D : va_G) (E : Nat → ClassId) (z : Nat) (a1 : Int32) (a2 : Int32) (a3 : Int32) (M : am_M) (o : Int32 ⊕ Nat) (M1 : am_M) (h : g_X9_sampled a1 a2 a3 M = some (o, M1)) : am_Xi l yX9_sampled cX9_sampled 5 (some .int) rm_X9_sampled D E z [.ref (z + 0), .int a1, .int a2, .int a3] M 2 12 o M1 := by
  unfold g_X9_sampled at h
  refine am_xof (own := RX9) (by decide +kernel) rfl (by exact Nat.le_of_ble_eq_true rfl) ?_
  intro p e s m args below meth c F hr ht0
  show am_W p l e rm_X9_sampled s m args below meth c _ 5 D E z 0 0 M 0 [(0, .ref (z + 0)), (1, .int a1), (2, .int a2), (3, .int a3)] []
  refine am_iload_n F 1 dX9_sampled_0 rfl rfl ?_
  refine am_iload_n F 2 dX9_sampled_1 rfl rfl ?_
  obtain ⟨o3, M2, h1, h⟩ := am_bxE h
  refine am_xcallSv F ht0 [.int a1, .int a2] cw_X9_326 rfl (c_X9_demandPlace l hls D E z a1 a2 M o3 M2 h1) yn_X9_demandPlace rfl ⟨Nat.le_of_ble_eq_true rfl, Nat.le_of_ble_eq_true rfl⟩ rfl rfl (Nat.le_of_ble_eq_true rfl) ⟨Nat.le_of_ble_eq_true rfl, Nat.le_of_ble_eq_true rfl⟩ ⟨Nat.le_of_ble_eq_true rfl, Nat.le_of_ble_eq_true rfl⟩ dX9_sampled_2 rfl h (fun _ _ h => ?_)
  refine am_iload_n F 3 dX9_sampled_5 rfl rfl ?_
  refine am_if_lt F (tgt := 14) dX9_sampled_6 (by decide) (fun c12 => ?_) (fun c12 => ?_)
  · have h := (if_pos c12).symm.trans h
    exact am_throwW F ht0 hls xt_X9_132_340_136 ⟨Nat.le_of_ble_eq_true rfl, Nat.le_of_ble_eq_true rfl, Nat.le_of_ble_eq_true rfl, Nat.le_of_ble_eq_true rfl⟩ ⟨Nat.le_of_ble_eq_true rfl, Nat.le_of_ble_eq_true rfl⟩ h dX9_sampled_14 dX9_sampled_17 dX9_sampled_18 dX9_sampled_21 dX9_sampled_24
  · have h := (if_neg c12).symm.trans h
    refine am_iload_n F 3 dX9_sampled_9 rfl rfl ?_
    refine am_iconst F (v := (4 : Int32)) dX9_sampled_10 (by decide) ?_
    refine am_icmp_lt F (tgt := 25) dX9_sampled_11 (by decide) (fun c11 => ?_) (fun c11 => ?_)
    · have h := (if_pos c11).symm.trans h
      refine am_iload_n F 1 dX9_sampled_25 rfl rfl ?_
      refine am_iconst F (v := (3 : Int32)) dX9_sampled_26 (by decide) ?_
      refine am_imul F dX9_sampled_27 ?_
      refine am_iload_n F 2 dX9_sampled_28 rfl rfl ?_
      refine am_iadd F dX9_sampled_29 ?_
      refine am_istore F [(4, .int ((a1 * (3 : Int32)) + a2)), (0, .ref (z + 0)), (1, .int a1), (2, .int a2), (3, .int a3)] dX9_sampled_30 (by decide) rfl ?_
      refine am_aload_n F 1 dX9_sampled_32 rfl rfl ?_
      refine gf_X9_34 F lyk_0 dX9_sampled_33 ?_
      refine gf_X9_342 F lyk_166 dX9_sampled_36 ?_
      refine am_iload F 0 dX9_sampled_39 rfl ?_
      obtain ⟨v6, M5, h4, h⟩ := am_bE h
      refine am_callSi F [.ref (z + 167), .int ((a1 * (3 : Int32)) + a2)] cw_X9_69 rfl (c_X9_at l D E z 167 6 lyk_167 ((a1 * (3 : Int32)) + a2) M2 v6 M5 h4) yn_X9_at rfl ⟨Nat.le_of_ble_eq_true rfl, Nat.le_of_ble_eq_true rfl⟩ rfl rfl (Nat.le_of_ble_eq_true rfl) ⟨Nat.le_of_ble_eq_true rfl, Nat.le_of_ble_eq_true rfl⟩ dX9_sampled_41 rfl ?_
      refine am_if_ne F (tgt := 58) dX9_sampled_44 (by decide) (fun c10 => ?_) (fun c10 => ?_)
      · have h := (if_neg c10).symm.trans h
        refine am_aload_n F 1 dX9_sampled_58 rfl rfl ?_
        refine gf_X9_34 F lyk_0 dX9_sampled_59 ?_
        refine gf_X9_347 F lyk_166 dX9_sampled_62 ?_
        refine am_iload F 0 dX9_sampled_65 rfl ?_
        refine am_iconst F (v := (4 : Int32)) dX9_sampled_67 (by decide) ?_
        refine am_imul F dX9_sampled_68 ?_
        refine am_iload_n F 4 dX9_sampled_69 rfl rfl ?_
        refine am_iadd F dX9_sampled_70 ?_
        obtain ⟨v9, M8, h7, h⟩ := am_bE h
        refine am_callSi F [.ref (z + 168), .int ((((a1 * (3 : Int32)) + a2) * (4 : Int32)) + a3)] cw_X9_69 rfl (c_X9_at l D E z 168 24 lyk_168 ((((a1 * (3 : Int32)) + a2) * (4 : Int32)) + a3) M5 v9 M8 h7) yn_X9_at rfl ⟨Nat.le_of_ble_eq_true rfl, Nat.le_of_ble_eq_true rfl⟩ rfl rfl (Nat.le_of_ble_eq_true rfl) ⟨Nat.le_of_ble_eq_true rfl, Nat.le_of_ble_eq_true rfl⟩ dX9_sampled_71 rfl ?_
        exact am_xiret F hr ⟨Nat.le_of_ble_eq_true rfl, Nat.le_of_ble_eq_true rfl⟩ h dX9_sampled_74
      · have h := (if_pos c10).symm.trans h
        exact am_throw4W F ht0 hls xt_X9_152_345_156 ⟨Nat.le_of_ble_eq_true rfl, Nat.le_of_ble_eq_true rfl, Nat.le_of_ble_eq_true rfl, Nat.le_of_ble_eq_true rfl⟩ ⟨Nat.le_of_ble_eq_true rfl, Nat.le_of_ble_eq_true rfl⟩ h dX9_sampled_47 dX9_sampled_50 dX9_sampled_51 dX9_sampled_54 dX9_sampled_57
    · have h := (if_neg c11).symm.trans h
      exact am_throwW F ht0 hls xt_X9_132_340_136 ⟨Nat.le_of_ble_eq_true rfl, Nat.le_of_ble_eq_true rfl, Nat.le_of_ble_eq_true rfl, Nat.le_of_ble_eq_true rfl⟩ ⟨Nat.le_of_ble_eq_true rfl, Nat.le_of_ble_eq_true rfl⟩ h dX9_sampled_14 dX9_sampled_17 dX9_sampled_18 dX9_sampled_21 dX9_sampled_24
/-! AisleScheduler.append(C)I -/
abbrev rm_X9_append : Room := { frames := 6, cells := 1, slots := 6, locals := 100 }
theorem yn_X9_append : am_yn yX9_append 1 := ⟨⟨by decide +kernel, by decide +kernel⟩, by decide +kernel⟩
def g_X9_append (a1 : Int32) (M : am_M) : Option ((Int32 ⊕ Nat) × am_M) := (if a1 < (32 : Int32) then (some ((.inr 2 : Int32 ⊕ Nat), M)) else (if a1 ≤ (126 : Int32) then (if (am_g M 169 0) < (40 : Int32) then (am_b (g_X5_add a1 M) (fun _ M2 => (some ((.inl (am_g M2 169 0) : Int32 ⊕ Nat), M2)))) else (some ((.inr 3 : Int32 ⊕ Nat), M))) else (some ((.inr 2 : Int32 ⊕ Nat), M))))
set_option maxHeartbeats 4000000 in
set_option maxRecDepth 100000 in
theorem c_X9_append (l : Launch) (hls : l.stackTraces = false) (D : va_G) (E : Nat → ClassId) (z : Nat) (a1 : Int32) (M : am_M) (o : Int32 ⊕ Nat) (M1 : am_M) (h : g_X9_append a1 M = some (o, M1)) : am_Xi l yX9_append cX9_append 2 (some .int) rm_X9_append D E z [.ref (z + 0), .int a1] M 1 6 o M1 := by
  unfold g_X9_append at h
  refine am_xof (own := RX9) (by decide +kernel) rfl (by exact Nat.le_of_ble_eq_true rfl) ?_
  intro p e s m args below meth c F hr ht0
  show am_W p l e rm_X9_append s m args below meth c _ 2 D E z 0 0 M 0 [(0, .ref (z + 0)), (1, .int a1)] []
  refine am_iload_n F 1 dX9_append_0 rfl rfl ?_
  refine am_bipush F (v := (32 : Int32)) dX9_append_1 (by decide) ?_
  refine am_icmp_lt F (tgt := 12) dX9_append_3 (by decide) (fun c5 => ?_) (fun c5 => ?_)
  · have h := (if_pos c5).symm.trans h
    exact am_throwW F ht0 hls xt_X9_132_350_136 ⟨Nat.le_of_ble_eq_true rfl, Nat.le_of_ble_eq_true rfl, Nat.le_of_ble_eq_true rfl, Nat.le_of_ble_eq_true rfl⟩ ⟨Nat.le_of_ble_eq_true rfl, Nat.le_of_ble_eq_true rfl⟩ h dX9_append_12 dX9_append_15 dX9_append_16 dX9_append_19 dX9_append_22
  · have h := (if_neg c5).symm.trans h
    refine am_iload_n F 1 dX9_append_6 rfl rfl ?_
    refine am_bipush F (v := (126 : Int32)) dX9_append_7 (by decide) ?_
    refine am_icmp_le F (tgt := 23) dX9_append_9 (by decide) (fun c4 => ?_) (fun c4 => ?_)
    · have h := (if_pos c4).symm.trans h
      refine am_aload_n F 0 dX9_append_23 rfl rfl ?_
      refine gf_X9_41 F lyk_0 dX9_append_24 ?_
      refine gf_X9_352 F lyk_169 dX9_append_27 ?_
      refine am_bipush F (v := (40 : Int32)) dX9_append_30 (by decide) ?_
      refine am_icmp_lt F (tgt := 46) dX9_append_32 (by decide) (fun c3 => ?_) (fun c3 => ?_)
      · have h := (if_pos c3).symm.trans h
        refine am_aload_n F 0 dX9_append_46 rfl rfl ?_
        refine gf_X9_41 F lyk_0 dX9_append_47 ?_
        refine am_iload_n F 1 dX9_append_50 rfl rfl ?_
        obtain ⟨_, M2, h1, h⟩ := am_bE h
        refine am_callVv F [.int a1] lyk_169 (by decide) rfl cw_X9_357 (c_X5_add l D E z a1 M M2 h1) yn_X5_add rfl ⟨Nat.le_of_ble_eq_true rfl, Nat.le_of_ble_eq_true rfl⟩ rfl rfl (Nat.le_of_ble_eq_true rfl) ⟨Nat.le_of_ble_eq_true rfl, Nat.le_of_ble_eq_true rfl⟩ dX9_append_51 rfl ?_
        refine am_aload_n F 0 dX9_append_54 rfl rfl ?_
        refine gf_X9_41 F lyk_0 dX9_append_55 ?_
        refine gf_X9_352 F lyk_169 dX9_append_58 ?_
        exact am_xiret F hr ⟨Nat.le_of_ble_eq_true rfl, Nat.le_of_ble_eq_true rfl⟩ h dX9_append_61
      · have h := (if_neg c3).symm.trans h
        exact am_throwW F ht0 hls xt_X9_218_355_222 ⟨Nat.le_of_ble_eq_true rfl, Nat.le_of_ble_eq_true rfl, Nat.le_of_ble_eq_true rfl, Nat.le_of_ble_eq_true rfl⟩ ⟨Nat.le_of_ble_eq_true rfl, Nat.le_of_ble_eq_true rfl⟩ h dX9_append_35 dX9_append_38 dX9_append_39 dX9_append_42 dX9_append_45
    · have h := (if_neg c4).symm.trans h
      exact am_throwW F ht0 hls xt_X9_132_350_136 ⟨Nat.le_of_ble_eq_true rfl, Nat.le_of_ble_eq_true rfl, Nat.le_of_ble_eq_true rfl, Nat.le_of_ble_eq_true rfl⟩ ⟨Nat.le_of_ble_eq_true rfl, Nat.le_of_ble_eq_true rfl⟩ h dX9_append_12 dX9_append_15 dX9_append_16 dX9_append_19 dX9_append_22
/-! AisleScheduler.read()I -/
abbrev rm_X9_read : Room := { frames := 7, cells := 1, slots := 6, locals := 158 }
theorem yn_X9_read : am_yn yX9_read 0 := ⟨⟨by decide +kernel, by decide +kernel⟩, by decide +kernel⟩
def g_X9_read  (M : am_M) : Option ((Int32 ⊕ Nat) × am_M) := (am_b (g_X5_parse  M) (fun v3 M2 => (if v3 < (0 : Int32) then (am_b (g_X9_doEntries  (am_s M2 169 0 (0 : Int32))) (fun v6 M5 => (if v6 = (0 : Int32) then (some ((.inr 3 : Int32 ⊕ Nat), M5)) else (some ((.inl (am_g M5 169 1) : Int32 ⊕ Nat), M5))))) else (some ((.inr 2 : Int32 ⊕ Nat), (am_s (am_s M2 169 0 (0 : Int32)) 0 7 v3))))))
set_option maxHeartbeats 4000000 in
set_option maxRecDepth 100000 in
theorem c_X9_read (l : Launch) (hls : l.stackTraces = false) (D : va_G) (E : Nat → ClassId) (z : Nat)  (M : am_M) (o : Int32 ⊕ Nat) (M1 : am_M) (h : g_X9_read  M = some (o, M1)) : am_Xi l yX9_read cX9_read 2 (some .int) rm_X9_read D E z [.ref (z + 0)] M 1 6 o M1 := by
  unfold g_X9_read at h
  refine am_xof (own := RX9) (by decide +kernel) rfl (by exact Nat.le_of_ble_eq_true rfl) ?_
  intro p e s m args below meth c F hr ht0
  show am_W p l e rm_X9_read s m args below meth c _ 2 D E z 0 0 M 0 [(0, .ref (z + 0))] []
  refine am_aload_n F 0 dX9_read_0 rfl rfl ?_
  refine gf_X9_41 F lyk_0 dX9_read_1 ?_
  obtain ⟨v3, M2, h1, h⟩ := am_bE h
  refine am_callVi F [] lyk_169 (by decide) rfl cw_X9_361 (c_X5_parse l D E z  M v3 M2 h1) yn_X5_parse rfl ⟨Nat.le_of_ble_eq_true rfl, Nat.le_of_ble_eq_true rfl⟩ rfl rfl (Nat.le_of_ble_eq_true rfl) ⟨Nat.le_of_ble_eq_true rfl, Nat.le_of_ble_eq_true rfl⟩ dX9_read_4 rfl ?_
  refine am_istore_n F [(1, .int v3), (0, .ref (z + 0))] dX9_read_7 rfl (by decide) rfl ?_
  refine am_aload_n F 1 dX9_read_8 rfl rfl ?_
  refine gf_X9_41 F lyk_0 dX9_read_9 ?_
  refine am_iconst F (v := (0 : Int32)) dX9_read_12 (by decide) ?_
  refine pf_X9_352 F lyk_169 dX9_read_13 ?_
  refine am_iload_n F 0 dX9_read_16 rfl rfl ?_
  refine am_if_lt F (tgt := 36) dX9_read_17 (by decide) (fun c8 => ?_) (fun c8 => ?_)
  · have h := (if_pos c8).symm.trans h
    refine am_aload_n F 1 dX9_read_36 rfl rfl ?_
    obtain ⟨v6, M5, h4, h⟩ := am_bE h
    refine am_callVi F [] lyk_0 (by decide) rfl cw_X9_366 (c_X9_doEntries l D E z  (am_s M2 169 0 (0 : Int32)) v6 M5 h4) yn_X9_doEntries rfl ⟨Nat.le_of_ble_eq_true rfl, Nat.le_of_ble_eq_true rfl⟩ rfl rfl (Nat.le_of_ble_eq_true rfl) ⟨Nat.le_of_ble_eq_true rfl, Nat.le_of_ble_eq_true rfl⟩ dX9_read_37 rfl ?_
    refine am_if_ne F (tgt := 54) dX9_read_40 (by decide) (fun c7 => ?_) (fun c7 => ?_)
    · have h := (if_neg c7).symm.trans h
      refine am_aload_n F 1 dX9_read_54 rfl rfl ?_
      refine gf_X9_41 F lyk_0 dX9_read_55 ?_
      refine gf_X9_372 F lyk_169 dX9_read_58 ?_
      exact am_xiret F hr ⟨Nat.le_of_ble_eq_true rfl, Nat.le_of_ble_eq_true rfl⟩ h dX9_read_61
    · have h := (if_pos c7).symm.trans h
      exact am_throwW F ht0 hls xt_X9_218_370_222 ⟨Nat.le_of_ble_eq_true rfl, Nat.le_of_ble_eq_true rfl, Nat.le_of_ble_eq_true rfl, Nat.le_of_ble_eq_true rfl⟩ ⟨Nat.le_of_ble_eq_true rfl, Nat.le_of_ble_eq_true rfl⟩ h dX9_read_43 dX9_read_46 dX9_read_47 dX9_read_50 dX9_read_53
  · have h := (if_neg c8).symm.trans h
    refine am_aload_n F 1 dX9_read_20 rfl rfl ?_
    refine am_iload_n F 0 dX9_read_21 rfl rfl ?_
    refine pf_X9_49 F lyk_0 dX9_read_22 ?_
    exact am_throwW F ht0 hls xt_X9_132_364_136 ⟨Nat.le_of_ble_eq_true rfl, Nat.le_of_ble_eq_true rfl, Nat.le_of_ble_eq_true rfl, Nat.le_of_ble_eq_true rfl⟩ ⟨Nat.le_of_ble_eq_true rfl, Nat.le_of_ble_eq_true rfl⟩ h dX9_read_25 dX9_read_28 dX9_read_29 dX9_read_32 dX9_read_35
/-! AisleScheduler.errorPosition()I -/
abbrev rm_X9_errorPosition : Room := { frames := 6, cells := 1, slots := 6, locals := 100 }
theorem yn_X9_errorPosition : am_yn yX9_errorPosition 0 := ⟨⟨by decide +kernel, by decide +kernel⟩, by decide +kernel⟩
def g_X9_errorPosition  (M : am_M) : Option ((Int32 ⊕ Nat) × am_M) := (if (0 : Int32) ≤ (am_g M 0 7) then (some ((.inl (am_g M 0 7) : Int32 ⊕ Nat), M)) else (some ((.inr 4 : Int32 ⊕ Nat), M)))
set_option maxHeartbeats 4000000 in
set_option maxRecDepth 100000 in
theorem c_X9_errorPosition (l : Launch) (hls : l.stackTraces = false) (D : va_G) (E : Nat → ClassId) (z : Nat)  (M : am_M) (o : Int32 ⊕ Nat) (M1 : am_M) (h : g_X9_errorPosition  M = some (o, M1)) : am_Xi l yX9_errorPosition cX9_errorPosition 1 (some .int) rm_X9_errorPosition D E z [.ref (z + 0)] M 1 6 o M1 := by
  unfold g_X9_errorPosition at h
  refine am_xof (own := RX9) (by decide +kernel) rfl (by exact Nat.le_of_ble_eq_true rfl) ?_
  intro p e s m args below meth c F hr ht0
  show am_W p l e rm_X9_errorPosition s m args below meth c _ 1 D E z 0 0 M 0 [(0, .ref (z + 0))] []
  refine am_aload_n F 0 dX9_errorPosition_0 rfl rfl ?_
  refine gf_X9_49 F lyk_0 dX9_errorPosition_1 ?_
  refine am_if_ge F (tgt := 18) dX9_errorPosition_4 (by decide) (fun c1 => ?_) (fun c1 => ?_)
  · have h := (if_pos c1).symm.trans h
    refine am_aload_n F 0 dX9_errorPosition_18 rfl rfl ?_
    refine gf_X9_49 F lyk_0 dX9_errorPosition_19 ?_
    exact am_xiret F hr ⟨Nat.le_of_ble_eq_true rfl, Nat.le_of_ble_eq_true rfl⟩ h dX9_errorPosition_22
  · have h := (if_neg c1).symm.trans h
    exact am_throw4W F ht0 hls xt_X9_152_375_156 ⟨Nat.le_of_ble_eq_true rfl, Nat.le_of_ble_eq_true rfl, Nat.le_of_ble_eq_true rfl, Nat.le_of_ble_eq_true rfl⟩ ⟨Nat.le_of_ble_eq_true rfl, Nat.le_of_ble_eq_true rfl⟩ h dX9_errorPosition_7 dX9_errorPosition_10 dX9_errorPosition_11 dX9_errorPosition_14 dX9_errorPosition_17
/-! AisleScheduler.restore()I -/
abbrev rm_X9_restore : Room := { frames := 6, cells := 1, slots := 6, locals := 110 }
theorem yn_X9_restore : am_yn yX9_restore 0 := ⟨⟨by decide +kernel, by decide +kernel⟩, by decide +kernel⟩
def g_X9_restore  (M : am_M) : Option ((Int32 ⊕ Nat) × am_M) := (if (am_g M 0 6) = (0 : Int32) then (some ((.inr 3 : Int32 ⊕ Nat), M)) else (am_b (g_X8_copyFrom 1 53 M) (fun _ M2 => (some ((.inl (am_g M2 1 4) : Int32 ⊕ Nat), M2)))))
set_option maxHeartbeats 4000000 in
set_option maxRecDepth 100000 in
theorem c_X9_restore (l : Launch) (hls : l.stackTraces = false) (D : va_G) (E : Nat → ClassId) (z : Nat)  (M : am_M) (o : Int32 ⊕ Nat) (M1 : am_M) (h : g_X9_restore  M = some (o, M1)) : am_Xi l yX9_restore cX9_restore 1 (some .int) rm_X9_restore D E z [.ref (z + 0)] M 1 6 o M1 := by
  unfold g_X9_restore at h
  refine am_xof (own := RX9) (by decide +kernel) rfl (by exact Nat.le_of_ble_eq_true rfl) ?_
  intro p e s m args below meth c F hr ht0
  show am_W p l e rm_X9_restore s m args below meth c _ 1 D E z 0 0 M 0 [(0, .ref (z + 0))] []
  refine am_aload_n F 0 dX9_restore_0 rfl rfl ?_
  refine gf_X9_45 F lyk_0 dX9_restore_1 ?_
  refine am_if_ne F (tgt := 18) dX9_restore_4 (by decide) (fun c3 => ?_) (fun c3 => ?_)
  · have h := (if_neg c3).symm.trans h
    refine am_aload_n F 0 dX9_restore_18 rfl rfl ?_
    refine gf_X9_12 F lyk_0 dX9_restore_19 ?_
    refine am_aload_n F 0 dX9_restore_22 rfl rfl ?_
    refine gf_X9_16 F lyk_0 dX9_restore_23 ?_
    obtain ⟨_, M2, h1, h⟩ := am_bE h
    refine am_callVv F [.ref (z + 53)] lyk_1 (by decide) rfl cw_X9_377 (c_X8_copyFrom l D E z 1 lyk_1 53 lyk_53 M M2 h1) yn_X8_copyFrom rfl ⟨Nat.le_of_ble_eq_true rfl, Nat.le_of_ble_eq_true rfl⟩ rfl rfl (Nat.le_of_ble_eq_true rfl) ⟨Nat.le_of_ble_eq_true rfl, Nat.le_of_ble_eq_true rfl⟩ dX9_restore_26 rfl ?_
    refine am_aload_n F 0 dX9_restore_29 rfl rfl ?_
    refine gf_X9_12 F lyk_0 dX9_restore_30 ?_
    refine gf_X9_106 F lyk_1 dX9_restore_33 ?_
    exact am_xiret F hr ⟨Nat.le_of_ble_eq_true rfl, Nat.le_of_ble_eq_true rfl⟩ h dX9_restore_36
  · have h := (if_pos c3).symm.trans h
    exact am_throwW F ht0 hls xt_X9_218_380_222 ⟨Nat.le_of_ble_eq_true rfl, Nat.le_of_ble_eq_true rfl, Nat.le_of_ble_eq_true rfl, Nat.le_of_ble_eq_true rfl⟩ ⟨Nat.le_of_ble_eq_true rfl, Nat.le_of_ble_eq_true rfl⟩ h dX9_restore_7 dX9_restore_10 dX9_restore_11 dX9_restore_14 dX9_restore_17
