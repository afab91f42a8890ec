/-! printed by wip/whole/drive.py -/
/-! AisleSchedulerModel.addTask(IIII)I -/
abbrev rm_X10_addTask : Room := { frames := 3, cells := 0, slots := 0, locals := 66 }
theorem yn_X10_addTask : am_yn yX10_addTask 4 := ⟨⟨by decide +kernel, by decide +kernel⟩, by decide +kernel⟩
def g_X10_addTask (a1 : Int32) (a2 : Int32) (a3 : Int32) (a4 : Int32) (M : am_M) : Option (Int32 × am_M) := (am_b (g_X10_isCell a1 (am_s M 174 0 (0 : Int32))) (fun v3 M2 => (if v3 = (0 : Int32) then (am_b (g_X10_fails (1 : Int32) M2) (fun v6 M5 => (some (v6, M5)))) else (am_b (g_X10_isCell a2 M2) (fun v9 M8 => (if v9 = (0 : Int32) then (am_b (g_X10_fails (1 : Int32) M8) (fun v61 M60 => (some (v61, M60)))) else (if a1 = a2 then (am_b (g_X10_fails (2 : Int32) M8) (fun v12 M11 => (some (v12, M11)))) else (am_b (g_X10_in a3 (0 : Int32) (1000 : Int32) M8) (fun v15 M14 => (if v15 = (0 : Int32) then (am_b (g_X10_fails (2 : Int32) M14) (fun v18 M17 => (some (v18, M17)))) else (am_b (g_X10_in a4 (0 : Int32) (1000 : Int32) M14) (fun v21 M20 => (if v21 = (0 : Int32) then (am_b (g_X10_fails (2 : Int32) M20) (fun v24 M23 => (some (v24, M23)))) else (if a3 ≤ a4 then (am_ci (7 : Int32) 406 (if (am_g M20 175 (7 : Int32).toNatClampNeg) = (12 : Int32) then (am_b (g_X10_fails (3 : Int32) M20) (fun v50 M49 => (some (v50, M49)))) else (am_ci (7 : Int32) 406 (am_b (g_X10_set (am_g M20 175 (7 : Int32).toNatClampNeg) (0 : Int32) a1 M20) (fun _ M28 => (am_b (g_X10_set (am_g M20 175 (7 : Int32).toNatClampNeg) (1 : Int32) a2 M28) (fun _ M30 => (am_b (g_X10_set (am_g M20 175 (7 : Int32).toNatClampNeg) (2 : Int32) a3 M30) (fun _ M32 => (am_b (g_X10_set (am_g M20 175 (7 : Int32).toNatClampNeg) (3 : Int32) a4 M32) (fun _ M34 => (am_b (g_X10_set (am_g M20 175 (7 : Int32).toNatClampNeg) (4 : Int32) (0 : Int32) M34) (fun _ M36 => (am_b (g_X10_set (am_g M20 175 (7 : Int32).toNatClampNeg) (5 : Int32) (0 : Int32) M36) (fun _ M38 => (am_b (g_X10_set (am_g M20 175 (7 : Int32).toNatClampNeg) (6 : Int32) (-1 : Int32) M38) (fun _ M40 => (am_b (g_X10_set (am_g M20 175 (7 : Int32).toNatClampNeg) (7 : Int32) (-1 : Int32) M40) (fun _ M42 => (am_ci (0 : Int32) 406 (am_b (g_X10_set (am_g M20 175 (7 : Int32).toNatClampNeg) (8 : Int32) (am_g M42 175 (0 : Int32).toNatClampNeg) M42) (fun _ M45 => (am_ci (7 : Int32) 406 (am_ci (7 : Int32) 406 (some ((am_g M20 175 (7 : Int32).toNatClampNeg), (am_s M45 175 (7 : Int32).toNatClampNeg ((am_g M45 175 (7 : Int32).toNatClampNeg) + (1 : Int32))))))))))))))))))))))))))))) else (am_b (g_X10_fails (2 : Int32) M20) (fun v54 M53 => (some (v54, M53))))))))))))))))))
set_option maxHeartbeats 4000000 in
set_option maxRecDepth 100000 in
theorem c_X10_addTask (l : Launch) (D : va_G) (E : Nat → ClassId) (z : Nat) (a1 : Int32) (a2 : Int32) (a3 : Int32) (a4 : Int32) (M : am_M) (r0 : Int32) (M1 : am_M) (h : g_X10_addTask a1 a2 a3 a4 M = some (r0, M1)) : am_Mi l yX10_addTask cX10_addTask 6 (some .int) rm_X10_addTask D E z [.ref (z + 174), .int a1, .int a2, .int a3, .int a4] M r0 M1 := by
  unfold g_X10_addTask at h
  refine am_of (own := RX10) (by decide +kernel) rfl (by exact Nat.le_of_ble_eq_true rfl) ?_
  intro p e s m args below meth c F hr
  show am_W p l e rm_X10_addTask s m args below meth c _ 6 D E z 0 0 M 0 [(0, .ref (z + 174)), (1, .int a1), (2, .int a2), (3, .int a3), (4, .int a4)] []
  refine am_aload_n F 0 dX10_addTask_0 rfl rfl ?_
  refine am_iconst F (v := (0 : Int32)) dX10_addTask_1 (by decide) ?_
  refine pf_X10_51 F lyk_174 dX10_addTask_2 ?_
  refine am_iload_n F 1 dX10_addTask_5 rfl rfl ?_
  obtain ⟨v3, M2, h1, h⟩ := am_bE h
  refine am_callSi F [.int a1] cw_X10_161 rfl (c_X10_isCell l D E z a1 (am_s M 174 0 (0 : Int32)) v3 M2 h1) yn_X10_isCell rfl ⟨Nat.le_of_ble_eq_true rfl, Nat.le_of_ble_eq_true rfl⟩ rfl rfl (Nat.le_of_ble_eq_true rfl) ⟨Nat.zero_le _, Nat.zero_le _⟩ dX10_addTask_6 rfl ?_
  refine am_if_eq F (tgt := 19) dX10_addTask_9 (by decide) (fun c63 => ?_) (fun c63 => ?_)
  · have h := (if_pos c63).symm.trans h
    refine am_aload_n F 0 dX10_addTask_19 rfl rfl ?_
    refine am_iconst F (v := (1 : Int32)) dX10_addTask_20 (by decide) ?_
    obtain ⟨v6, M5, h4, h⟩ := am_bE h
    refine am_callVi F [.int (1 : Int32)] lyk_174 (by decide) rfl cw_X10_164 (c_X10_fails l D E z (1 : Int32) M2 v6 M5 h4) yn_X10_fails rfl ⟨Nat.le_of_ble_eq_true rfl, Nat.le_of_ble_eq_true rfl⟩ rfl rfl (Nat.le_of_ble_eq_true rfl) ⟨Nat.zero_le _, Nat.zero_le _⟩ dX10_addTask_21 rfl ?_
    exact am_iret F hr h dX10_addTask_24
  · have h := (if_neg c63).symm.trans h
    refine am_iload_n F 2 dX10_addTask_12 rfl rfl ?_
    obtain ⟨v9, M8, h7, h⟩ := am_bE h
    refine am_callSi F [.int a2] cw_X10_161 rfl (c_X10_isCell l D E z a2 M2 v9 M8 h7) yn_X10_isCell rfl ⟨Nat.le_of_ble_eq_true rfl, Nat.le_of_ble_eq_true rfl⟩ rfl rfl (Nat.le_of_ble_eq_true rfl) ⟨Nat.zero_le _, Nat.zero_le _⟩ dX10_addTask_13 rfl ?_
    refine am_if_ne F (tgt := 25) dX10_addTask_16 (by decide) (fun c62 => ?_) (fun c62 => ?_)
    · have h := (if_neg c62).symm.trans h
      refine am_iload_n F 1 dX10_addTask_25 rfl rfl ?_
      refine am_iload_n F 2 dX10_addTask_26 rfl rfl ?_
      refine am_icmp_eq F (tgt := 59) dX10_addTask_27 (by decide) (fun c58 => ?_) (fun c58 => ?_)
      · have h := (if_pos c58).symm.trans h
        refine am_aload_n F 0 dX10_addTask_59 rfl rfl ?_
        refine am_iconst F (v := (2 : Int32)) dX10_addTask_60 (by decide) ?_
        obtain ⟨v12, M11, h10, h⟩ := am_bE h
        refine am_callVi F [.int (2 : Int32)] lyk_174 (by decide) rfl cw_X10_164 (c_X10_fails l D E z (2 : Int32) M8 v12 M11 h10) yn_X10_fails rfl ⟨Nat.le_of_ble_eq_true rfl, Nat.le_of_ble_eq_true rfl⟩ rfl rfl (Nat.le_of_ble_eq_true rfl) ⟨Nat.zero_le _, Nat.zero_le _⟩ dX10_addTask_61 rfl ?_
        exact am_iret F hr h dX10_addTask_64
      · have h := (if_neg c58).symm.trans h
        refine am_iload_n F 3 dX10_addTask_30 rfl rfl ?_
        refine am_iconst F (v := (0 : Int32)) dX10_addTask_31 (by decide) ?_
        refine am_sipush F (v := (1000 : Int32)) dX10_addTask_32 (by decide) ?_
        obtain ⟨v15, M14, h13, h⟩ := am_bE h
        refine am_callSi F [.int a3, .int (0 : Int32), .int (1000 : Int32)] cw_X10_54 rfl (c_X10_in l D E z a3 (0 : Int32) (1000 : Int32) M8 v15 M14 h13) yn_X10_in rfl ⟨Nat.le_of_ble_eq_true rfl, Nat.le_of_ble_eq_true rfl⟩ rfl rfl (Nat.le_of_ble_eq_true rfl) ⟨Nat.zero_le _, Nat.zero_le _⟩ dX10_addTask_35 rfl ?_
        refine am_if_eq F (tgt := 59) dX10_addTask_38 (by decide) (fun c57 => ?_) (fun c57 => ?_)
        · have h := (if_pos c57).symm.trans h
          refine am_aload_n F 0 dX10_addTask_59 rfl rfl ?_
          refine am_iconst F (v := (2 : Int32)) dX10_addTask_60 (by decide) ?_
          obtain ⟨v18, M17, h16, h⟩ := am_bE h
          refine am_callVi F [.int (2 : Int32)] lyk_174 (by decide) rfl cw_X10_164 (c_X10_fails l D E z (2 : Int32) M14 v18 M17 h16) yn_X10_fails rfl ⟨Nat.le_of_ble_eq_true rfl, Nat.le_of_ble_eq_true rfl⟩ rfl rfl (Nat.le_of_ble_eq_true rfl) ⟨Nat.zero_le _, Nat.zero_le _⟩ dX10_addTask_61 rfl ?_
          exact am_iret F hr h dX10_addTask_64
        · have h := (if_neg c57).symm.trans h
          refine am_iload F 4 dX10_addTask_41 rfl ?_
          refine am_iconst F (v := (0 : Int32)) dX10_addTask_43 (by decide) ?_
          refine am_sipush F (v := (1000 : Int32)) dX10_addTask_44 (by decide) ?_
          obtain ⟨v21, M20, h19, h⟩ := am_bE h
          refine am_callSi F [.int a4, .int (0 : Int32), .int (1000 : Int32)] cw_X10_54 rfl (c_X10_in l D E z a4 (0 : Int32) (1000 : Int32) M14 v21 M20 h19) yn_X10_in rfl ⟨Nat.le_of_ble_eq_true rfl, Nat.le_of_ble_eq_true rfl⟩ rfl rfl (Nat.le_of_ble_eq_true rfl) ⟨Nat.zero_le _, Nat.zero_le _⟩ dX10_addTask_47 rfl ?_
          refine am_if_eq F (tgt := 59) dX10_addTask_50 (by decide) (fun c56 => ?_) (fun c56 => ?_)
          · have h := (if_pos c56).symm.trans h
            refine am_aload_n F 0 dX10_addTask_59 rfl rfl ?_
            refine am_iconst F (v := (2 : Int32)) dX10_addTask_60 (by decide) ?_
            obtain ⟨v24, M23, h22, h⟩ := am_bE h
            refine am_callVi F [.int (2 : Int32)] lyk_174 (by decide) rfl cw_X10_164 (c_X10_fails l D E z (2 : Int32) M20 v24 M23 h22) yn_X10_fails rfl ⟨Nat.le_of_ble_eq_true rfl, Nat.le_of_ble_eq_true rfl⟩ rfl rfl (Nat.le_of_ble_eq_true rfl) ⟨Nat.zero_le _, Nat.zero_le _⟩ dX10_addTask_61 rfl ?_
            exact am_iret F hr h dX10_addTask_64
          · have h := (if_neg c56).symm.trans h
            refine am_iload_n F 3 dX10_addTask_53 rfl rfl ?_
            refine am_iload F 4 dX10_addTask_54 rfl ?_
            refine am_icmp_le F (tgt := 65) dX10_addTask_56 (by decide) (fun c55 => ?_) (fun c55 => ?_)
            · have h := (if_pos c55).symm.trans h
              refine am_aload_n F 0 dX10_addTask_65 rfl rfl ?_
              refine gf_X10_7 F lyk_174 dX10_addTask_66 ?_
              refine am_bipush F (v := (7 : Int32)) dX10_addTask_69 (by decide) ?_
              obtain ⟨q25, h⟩ := am_ciE h
              refine am_iald F lyk_175 q25 dX10_addTask_71 ?_
              refine am_bipush F (v := (12 : Int32)) dX10_addTask_72 (by decide) ?_
              refine am_icmp_ne F (tgt := 83) dX10_addTask_74 (by decide) (fun c51 => ?_) (fun c51 => ?_)
              · have h := (if_neg c51).symm.trans h
                refine am_aload_n F 0 dX10_addTask_83 rfl rfl ?_
                refine gf_X10_7 F lyk_174 dX10_addTask_84 ?_
                refine am_bipush F (v := (7 : Int32)) dX10_addTask_87 (by decide) ?_
                obtain ⟨q26, h⟩ := am_ciE h
                refine am_iald F lyk_175 q26 dX10_addTask_89 ?_
                refine am_istore F [(5, .int (am_g M20 175 (7 : Int32).toNatClampNeg)), (0, .ref (z + 174)), (1, .int a1), (2, .int a2), (3, .int a3), (4, .int a4)] dX10_addTask_90 (by decide) rfl ?_
                refine am_aload_n F 1 dX10_addTask_92 rfl rfl ?_
                refine am_iload F 0 dX10_addTask_93 rfl ?_
                refine am_iconst F (v := (0 : Int32)) dX10_addTask_95 (by decide) ?_
                refine am_iload_n F 2 dX10_addTask_96 rfl rfl ?_
                obtain ⟨_, M28, h27, h⟩ := am_bE h
                refine am_callVv F [.int (am_g M20 175 (7 : Int32).toNatClampNeg), .int (0 : Int32), .int a1] lyk_174 (by decide) rfl cw_X10_142 (c_X10_set l D E z (am_g M20 175 (7 : Int32).toNatClampNeg) (0 : Int32) a1 M20 M28 h27) yn_X10_set rfl ⟨Nat.le_of_ble_eq_true rfl, Nat.le_of_ble_eq_true rfl⟩ rfl rfl (Nat.le_of_ble_eq_true rfl) ⟨Nat.zero_le _, Nat.zero_le _⟩ dX10_addTask_97 rfl ?_
                refine am_aload_n F 1 dX10_addTask_100 rfl rfl ?_
                refine am_iload F 0 dX10_addTask_101 rfl ?_
                refine am_iconst F (v := (1 : Int32)) dX10_addTask_103 (by decide) ?_
                refine am_iload_n F 3 dX10_addTask_104 rfl rfl ?_
                obtain ⟨_, M30, h29, h⟩ := am_bE h
                refine am_callVv F [.int (am_g M20 175 (7 : Int32).toNatClampNeg), .int (1 : Int32), .int a2] lyk_174 (by decide) rfl cw_X10_142 (c_X10_set l D E z (am_g M20 175 (7 : Int32).toNatClampNeg) (1 : Int32) a2 M28 M30 h29) yn_X10_set rfl ⟨Nat.le_of_ble_eq_true rfl, Nat.le_of_ble_eq_true rfl⟩ rfl rfl (Nat.le_of_ble_eq_true rfl) ⟨Nat.zero_le _, Nat.zero_le _⟩ dX10_addTask_105 rfl ?_
                refine am_aload_n F 1 dX10_addTask_108 rfl rfl ?_
                refine am_iload F 0 dX10_addTask_109 rfl ?_
                refine am_iconst F (v := (2 : Int32)) dX10_addTask_111 (by decide) ?_
                refine am_iload_n F 4 dX10_addTask_112 rfl rfl ?_
                obtain ⟨_, M32, h31, h⟩ := am_bE h
                refine am_callVv F [.int (am_g M20 175 (7 : Int32).toNatClampNeg), .int (2 : Int32), .int a3] lyk_174 (by decide) rfl cw_X10_142 (c_X10_set l D E z (am_g M20 175 (7 : Int32).toNatClampNeg) (2 : Int32) a3 M30 M32 h31) yn_X10_set rfl ⟨Nat.le_of_ble_eq_true rfl, Nat.le_of_ble_eq_true rfl⟩ rfl rfl (Nat.le_of_ble_eq_true rfl) ⟨Nat.zero_le _, Nat.zero_le _⟩ dX10_addTask_113 rfl ?_
                refine am_aload_n F 1 dX10_addTask_116 rfl rfl ?_
                refine am_iload F 0 dX10_addTask_117 rfl ?_
                refine am_iconst F (v := (3 : Int32)) dX10_addTask_119 (by decide) ?_
                refine am_iload F 5 dX10_addTask_120 rfl ?_
                obtain ⟨_, M34, h33, h⟩ := am_bE h
                refine am_callVv F [.int (am_g M20 175 (7 : Int32).toNatClampNeg), .int (3 : Int32), .int a4] lyk_174 (by decide) rfl cw_X10_142 (c_X10_set l D E z (am_g M20 175 (7 : Int32).toNatClampNeg) (3 : Int32) a4 M32 M34 h33) yn_X10_set rfl ⟨Nat.le_of_ble_eq_true rfl, Nat.le_of_ble_eq_true rfl⟩ rfl rfl (Nat.le_of_ble_eq_true rfl) ⟨Nat.zero_le _, Nat.zero_le _⟩ dX10_addTask_122 rfl ?_
                refine am_aload_n F 1 dX10_addTask_125 rfl rfl ?_
                refine am_iload F 0 dX10_addTask_126 rfl ?_
                refine am_iconst F (v := (4 : Int32)) dX10_addTask_128 (by decide) ?_
                refine am_iconst F (v := (0 : Int32)) dX10_addTask_129 (by decide) ?_
                obtain ⟨_, M36, h35, h⟩ := am_bE h
                refine am_callVv F [.int (am_g M20 175 (7 : Int32).toNatClampNeg), .int (4 : Int32), .int (0 : Int32)] lyk_174 (by decide) rfl cw_X10_142 (c_X10_set l D E z (am_g M20 175 (7 : Int32).toNatClampNeg) (4 : Int32) (0 : Int32) M34 M36 h35) yn_X10_set rfl ⟨Nat.le_of_ble_eq_true rfl, Nat.le_of_ble_eq_true rfl⟩ rfl rfl (Nat.le_of_ble_eq_true rfl) ⟨Nat.zero_le _, Nat.zero_le _⟩ dX10_addTask_130 rfl ?_
                refine am_aload_n F 1 dX10_addTask_133 rfl rfl ?_
                refine am_iload F 0 dX10_addTask_134 rfl ?_
                refine am_iconst F (v := (5 : Int32)) dX10_addTask_136 (by decide) ?_
                refine am_iconst F (v := (0 : Int32)) dX10_addTask_137 (by decide) ?_
                obtain ⟨_, M38, h37, h⟩ := am_bE h
                refine am_callVv F [.int (am_g M20 175 (7 : Int32).toNatClampNeg), .int (5 : Int32), .int (0 : Int32)] lyk_174 (by decide) rfl cw_X10_142 (c_X10_set l D E z (am_g M20 175 (7 : Int32).toNatClampNeg) (5 : Int32) (0 : Int32) M36 M38 h37) yn_X10_set rfl ⟨Nat.le_of_ble_eq_true rfl, Nat.le_of_ble_eq_true rfl⟩ rfl rfl (Nat.le_of_ble_eq_true rfl) ⟨Nat.zero_le _, Nat.zero_le _⟩ dX10_addTask_138 rfl ?_
                refine am_aload_n F 1 dX10_addTask_141 rfl rfl ?_
                refine am_iload F 0 dX10_addTask_142 rfl ?_
                refine am_bipush F (v := (6 : Int32)) dX10_addTask_144 (by decide) ?_
                refine am_iconst F (v := (-1 : Int32)) dX10_addTask_146 (by decide) ?_
                obtain ⟨_, M40, h39, h⟩ := am_bE h
                refine am_callVv F [.int (am_g M20 175 (7 : Int32).toNatClampNeg), .int (6 : Int32), .int (-1 : Int32)] lyk_174 (by decide) rfl cw_X10_142 (c_X10_set l D E z (am_g M20 175 (7 : Int32).toNatClampNeg) (6 : Int32) (-1 : Int32) M38 M40 h39) yn_X10_set rfl ⟨Nat.le_of_ble_eq_true rfl, Nat.le_of_ble_eq_true rfl⟩ rfl rfl (Nat.le_of_ble_eq_true rfl) ⟨Nat.zero_le _, Nat.zero_le _⟩ dX10_addTask_147 rfl ?_
                refine am_aload_n F 1 dX10_addTask_150 rfl rfl ?_
                refine am_iload F 0 dX10_addTask_151 rfl ?_
                refine am_bipush F (v := (7 : Int32)) dX10_addTask_153 (by decide) ?_
                refine am_iconst F (v := (-1 : Int32)) dX10_addTask_155 (by decide) ?_
                obtain ⟨_, M42, h41, h⟩ := am_bE h
                refine am_callVv F [.int (am_g M20 175 (7 : Int32).toNatClampNeg), .int (7 : Int32), .int (-1 : Int32)] lyk_174 (by decide) rfl cw_X10_142 (c_X10_set l D E z (am_g M20 175 (7 : Int32).toNatClampNeg) (7 : Int32) (-1 : Int32) M40 M42 h41) yn_X10_set rfl ⟨Nat.le_of_ble_eq_true rfl, Nat.le_of_ble_eq_true rfl⟩ rfl rfl (Nat.le_of_ble_eq_true rfl) ⟨Nat.zero_le _, Nat.zero_le _⟩ dX10_addTask_156 rfl ?_
                refine am_aload_n F 1 dX10_addTask_159 rfl rfl ?_
                refine am_iload F 0 dX10_addTask_160 rfl ?_
                refine am_bipush F (v := (8 : Int32)) dX10_addTask_162 (by decide) ?_
                refine am_aload_n F 1 dX10_addTask_164 rfl rfl ?_
                refine gf_X10_7 F lyk_174 dX10_addTask_165 ?_
                refine am_iconst F (v := (0 : Int32)) dX10_addTask_168 (by decide) ?_
                obtain ⟨q43, h⟩ := am_ciE h
                refine am_iald F lyk_175 q43 dX10_addTask_169 ?_
                obtain ⟨_, M45, h44, h⟩ := am_bE h
                refine am_callVv F [.int (am_g M20 175 (7 : Int32).toNatClampNeg), .int (8 : Int32), .int (am_g M42 175 (0 : Int32).toNatClampNeg)] lyk_174 (by decide) rfl cw_X10_142 (c_X10_set l D E z (am_g M20 175 (7 : Int32).toNatClampNeg) (8 : Int32) (am_g M42 175 (0 : Int32).toNatClampNeg) M42 M45 h44) yn_X10_set rfl ⟨Nat.le_of_ble_eq_true rfl, Nat.le_of_ble_eq_true rfl⟩ rfl rfl (Nat.le_of_ble_eq_true rfl) ⟨Nat.zero_le _, Nat.zero_le _⟩ dX10_addTask_170 rfl ?_
                refine am_aload_n F 1 dX10_addTask_173 rfl rfl ?_
                refine gf_X10_7 F lyk_174 dX10_addTask_174 ?_
                refine am_bipush F (v := (7 : Int32)) dX10_addTask_177 (by decide) ?_
                refine am_dup2 F dX10_addTask_179 rfl rfl ?_
                obtain ⟨q46, h⟩ := am_ciE h
                refine am_iald F lyk_175 q46 dX10_addTask_180 ?_
                refine am_iconst F (v := (1 : Int32)) dX10_addTask_181 (by decide) ?_
                refine am_iadd F dX10_addTask_182 ?_
                obtain ⟨q47, h⟩ := am_ciE h
                refine am_iast F lyk_175 q47 dX10_addTask_183 ?_
                refine am_iload F 0 dX10_addTask_184 rfl ?_
                exact am_iret F hr h dX10_addTask_186
              · have h := (if_pos c51).symm.trans h
                refine am_aload_n F 0 dX10_addTask_77 rfl rfl ?_
                refine am_iconst F (v := (3 : Int32)) dX10_addTask_78 (by decide) ?_
                obtain ⟨v50, M49, h48, h⟩ := am_bE h
                refine am_callVi F [.int (3 : Int32)] lyk_174 (by decide) rfl cw_X10_164 (c_X10_fails l D E z (3 : Int32) M20 v50 M49 h48) yn_X10_fails rfl ⟨Nat.le_of_ble_eq_true rfl, Nat.le_of_ble_eq_true rfl⟩ rfl rfl (Nat.le_of_ble_eq_true rfl) ⟨Nat.zero_le _, Nat.zero_le _⟩ dX10_addTask_79 rfl ?_
                exact am_iret F hr h dX10_addTask_82
            · have h := (if_neg c55).symm.trans h
              refine am_aload_n F 0 dX10_addTask_59 rfl rfl ?_
              refine am_iconst F (v := (2 : Int32)) dX10_addTask_60 (by decide) ?_
              obtain ⟨v54, M53, h52, h⟩ := am_bE h
              refine am_callVi F [.int (2 : Int32)] lyk_174 (by decide) rfl cw_X10_164 (c_X10_fails l D E z (2 : Int32) M20 v54 M53 h52) yn_X10_fails rfl ⟨Nat.le_of_ble_eq_true rfl, Nat.le_of_ble_eq_true rfl⟩ rfl rfl (Nat.le_of_ble_eq_true rfl) ⟨Nat.zero_le _, Nat.zero_le _⟩ dX10_addTask_61 rfl ?_
              exact am_iret F hr h dX10_addTask_64
    · have h := (if_pos c62).symm.trans h
      refine am_aload_n F 0 dX10_addTask_19 rfl rfl ?_
      refine am_iconst F (v := (1 : Int32)) dX10_addTask_20 (by decide) ?_
      obtain ⟨v61, M60, h59, h⟩ := am_bE h
      refine am_callVi F [.int (1 : Int32)] lyk_174 (by decide) rfl cw_X10_164 (c_X10_fails l D E z (1 : Int32) M8 v61 M60 h59) yn_X10_fails rfl ⟨Nat.le_of_ble_eq_true rfl, Nat.le_of_ble_eq_true rfl⟩ rfl rfl (Nat.le_of_ble_eq_true rfl) ⟨Nat.zero_le _, Nat.zero_le _⟩ dX10_addTask_21 rfl ?_
      exact am_iret F hr h dX10_addTask_24
/-! AisleSchedulerModel.reason(II)I -/
abbrev rm_X10_reason : Room := { frames := 7, cells := 0, slots := 0, locals := 173 }
theorem yn_X10_reason : am_yn yX10_reason 2 := ⟨⟨by decide +kernel, by decide +kernel⟩, by decide +kernel⟩
def g_X10_reason_L96 (a1 : Int32) (a2 : Int32) (a3 : Int32) (a5 : Int32) : Nat → Int32 → am_M → Option ((Unit) × am_M)
  | 0, _, _ => none
  | n + 1, a6, M => (if a5 ≤ a6 then (some ((), M)) else (am_ci (am_g M 174 15) 64 (g_X10_reason_L96 a1 a2 a3 a5 n (a6 + (1 : Int32)) (am_s (am_s M 184 (am_g M 174 15).toNatClampNeg (0 : Int32)) 174 15 ((am_g (am_s M 184 (am_g M 174 15).toNatClampNeg (0 : Int32)) 174 15) + (1 : Int32))))))
set_option maxHeartbeats 4000000 in
set_option maxRecDepth 100000 in
theorem cl_X10_reason_L96 {l : Launch} {p : Program} {e : Env} {s : State} {m : MethodId} {args : Array Value} {below : List Frame} {meth : Method} {c : Code} {Q : State → Prop} {D : va_G} {E : Nat → ClassId} {z : Nat} (F : am_F p s m args meth c cX10_reason 7 RX10 D E z) (a1 : Int32) (a2 : Int32) (a3 : Int32) (a5 : Int32) : ∀ (n : Nat) (a6 : Int32) (M : am_M) (x : Unit) (M1 : am_M), g_X10_reason_L96 a1 a2 a3 a5 n a6 M = some (x, M1) → (am_W p l e rm_X10_reason s m args below meth c Q 7 D E z 0 0 M1 129 [(0, .ref (z + 174)), (1, .int a1), (2, .int a2), (3, .int a3), (5, .int a5)] []) → am_W p l e rm_X10_reason s m args below meth c Q 7 D E z 0 0 M 96 [(0, .ref (z + 174)), (1, .int a1), (2, .int a2), (3, .int a3), (5, .int a5), (6, .int a6)] [] := by
  intro n
  induction n with
  | zero => intro a6 M x M1 h K; cases h
  | succ n ih =>
    intro a6 M x M1 h K
    rw [g_X10_reason_L96] at h
    refine am_iload F 5 dX10_reason_96 rfl ?_
    refine am_iload F 4 dX10_reason_98 rfl ?_
    refine am_icmp_ge F (tgt := 129) dX10_reason_100 (by decide) (fun c25 => ?_) (fun c25 => ?_)
    · have h := (if_pos c25).symm.trans h
      cases h
      exact am_sub (lv' := [(0, .ref (z + 174)), (1, .int a1), (2, .int a2), (3, .int a3), (5, .int a5)]) [0, 1, 2, 3, 4] rfl (K)
    · have h := (if_neg c25).symm.trans h
      refine am_aload_n F 0 dX10_reason_103 rfl rfl ?_
      refine gf_X10_45 F lyk_174 dX10_reason_104 ?_
      refine am_aload_n F 0 dX10_reason_107 rfl rfl ?_
      refine gf_X10_126 F lyk_174 dX10_reason_108 ?_
      refine am_iconst F (v := (0 : Int32)) dX10_reason_111 (by decide) ?_
      obtain ⟨q24, h⟩ := am_ciE h
      refine am_iast F lyk_184 q24 dX10_reason_112 ?_
      refine am_aload_n F 0 dX10_reason_113 rfl rfl ?_
      refine am_dup F dX10_reason_114 rfl ?_
      refine gf_X10_126 F lyk_174 dX10_reason_115 ?_
      refine am_iconst F (v := (1 : Int32)) dX10_reason_118 (by decide) ?_
      refine am_iadd F dX10_reason_119 ?_
      refine pf_X10_126 F lyk_174 dX10_reason_120 ?_
      refine am_iinc F [(6, .int (a6 + (1 : Int32))), (0, .ref (z + 174)), (1, .int a1), (2, .int a2), (3, .int a3), (5, .int a5)] 5 dX10_reason_123 (by decide) rfl rfl rfl ?_
      refine am_goto F (tgt := 96) dX10_reason_126 (by decide) ?_
      exact am_sub (lv' := [(0, .ref (z + 174)), (1, .int a1), (2, .int a2), (3, .int a3), (5, .int a5), (6, .int (a6 + (1 : Int32)))]) [1, 2, 3, 4, 5, 0] rfl (ih (a6 + (1 : Int32)) (am_s (am_s M 184 (am_g M 174 15).toNatClampNeg (0 : Int32)) 174 15 ((am_g (am_s M 184 (am_g M 174 15).toNatClampNeg (0 : Int32)) 174 15) + (1 : Int32))) _ _ h K)
def g_X10_reason (a1 : Int32) (a2 : Int32) (M : am_M) : Option (Int32 × am_M) := (am_b (g_X10_isInLift a2 M) (fun v3 M2 => (if v3 = (0 : Int32) then (am_b (g_X10_allForeseen  M2) (fun _ M5 => (am_b (g_X10_begins  M5) (fun _ M7 => (am_b (g_X10_item a1 (0 : Int32) M7) (fun v10 M9 => (am_b (g_X10_of a2 (0 : Int32) M9) (fun v13 M12 => (am_b (g_X10_routes a2 v13 (0 : Int32) v10 (0 : Int32) M12) (fun v16 M15 => (if v16 = (0 : Int32) then (some ((2 : Int32), M15)) else (am_b (g_X10_item a1 (2 : Int32) M15) (fun v19 M18 => (am_ci (0 : Int32) 406 (if (30 : Int32) < (if (am_g M15 174 16) < (v19 - (am_g M18 175 (0 : Int32).toNatClampNeg)) then (v19 - (am_g M18 175 (0 : Int32).toNatClampNeg)) else (am_g M15 174 16)) then (some ((3 : Int32), M18)) else (am_b (g_X10_canWait a2 v10 (am_g M15 174 16) (if (am_g M15 174 16) < (v19 - (am_g M18 175 (0 : Int32).toNatClampNeg)) then (v19 - (am_g M18 175 (0 : Int32).toNatClampNeg)) else (am_g M15 174 16)) M18) (fun v23 M22 => (if v23 = (0 : Int32) then (some ((3 : Int32), M22)) else (am_b (g_X10_reason_L96 a1 a2 v10 (if (am_g M15 174 16) < (v19 - (am_g M18 175 (0 : Int32).toNatClampNeg)) then (v19 - (am_g M18 175 (0 : Int32).toNatClampNeg)) else (am_g M15 174 16)) am_fu (am_g M15 174 16) M22) (fun x26 M27 => (am_b (g_X10_item a1 (1 : Int32) M27) (fun v31 M30 => (am_b (g_X10_routes a2 v10 (if (am_g M15 174 16) < (v19 - (am_g M18 175 (0 : Int32).toNatClampNeg)) then (v19 - (am_g M18 175 (0 : Int32).toNatClampNeg)) else (am_g M15 174 16)) v31 (1 : Int32) M30) (fun v34 M33 => (if v34 = (0 : Int32) then (some ((4 : Int32), M33)) else (am_ci (0 : Int32) 406 (am_b (g_X10_item a1 (3 : Int32) M33) (fun v38 M37 => (if ((am_g M33 175 (0 : Int32).toNatClampNeg) + (am_g M33 174 16)) ≤ v38 then (am_b (g_X10_of a2 (1 : Int32) M37) (fun v41 M40 => (if (am_g M37 174 17) ≤ v41 then (some ((0 : Int32), M40)) else (some ((6 : Int32), M40))))) else (some ((5 : Int32), M37))))))))))))))))))))))))))))))) else (some ((1 : Int32), M2)))))
set_option maxHeartbeats 4000000 in
set_option maxRecDepth 100000 in
theorem c_X10_reason (l : Launch) (D : va_G) (E : Nat → ClassId) (z : Nat) (a1 : Int32) (a2 : Int32) (M : am_M) (r0 : Int32) (M1 : am_M) (h : g_X10_reason a1 a2 M = some (r0, M1)) : am_Mi l yX10_reason cX10_reason 7 (some .int) rm_X10_reason D E z [.ref (z + 174), .int a1, .int a2] M r0 M1 := by
  unfold g_X10_reason at h
  refine am_of (own := RX10) (by decide +kernel) rfl (by exact Nat.le_of_ble_eq_true rfl) ?_
  intro p e s m args below meth c F hr
  show am_W p l e rm_X10_reason s m args below meth c _ 7 D E z 0 0 M 0 [(0, .ref (z + 174)), (1, .int a1), (2, .int a2)] []
  refine am_aload_n F 0 dX10_reason_0 rfl rfl ?_
  refine am_iload_n F 2 dX10_reason_1 rfl rfl ?_
  obtain ⟨v3, M2, h1, h⟩ := am_bE h
  refine am_callVi F [.int a2] lyk_174 (by decide) rfl cw_X10_151 (c_X10_isInLift l D E z a2 M v3 M2 h1) yn_X10_isInLift rfl ⟨Nat.le_of_ble_eq_true rfl, Nat.le_of_ble_eq_true rfl⟩ rfl rfl (Nat.le_of_ble_eq_true rfl) ⟨Nat.zero_le _, Nat.zero_le _⟩ dX10_reason_2 rfl ?_
  refine am_if_eq F (tgt := 10) dX10_reason_5 (by decide) (fun c48 => ?_) (fun c48 => ?_)
  · have h := (if_pos c48).symm.trans h
    refine am_aload_n F 0 dX10_reason_10 rfl rfl ?_
    obtain ⟨_, M5, h4, h⟩ := am_bE h
    refine am_callVv F [] lyk_174 (by decide) rfl cw_X10_132 (c_X10_allForeseen l D E z  M2 M5 h4) yn_X10_allForeseen rfl ⟨Nat.le_of_ble_eq_true rfl, Nat.le_of_ble_eq_true rfl⟩ rfl rfl (Nat.le_of_ble_eq_true rfl) ⟨Nat.zero_le _, Nat.zero_le _⟩ dX10_reason_11 rfl ?_
    refine am_aload_n F 0 dX10_reason_14 rfl rfl ?_
    obtain ⟨_, M7, h6, h⟩ := am_bE h
    refine am_callVv F [] lyk_174 (by decide) rfl cw_X10_135 (c_X10_begins l D E z  M5 M7 h6) yn_X10_begins rfl ⟨Nat.le_of_ble_eq_true rfl, Nat.le_of_ble_eq_true rfl⟩ rfl rfl (Nat.le_of_ble_eq_true rfl) ⟨Nat.zero_le _, Nat.zero_le _⟩ dX10_reason_15 rfl ?_
    refine am_aload_n F 0 dX10_reason_18 rfl rfl ?_
    refine am_iload_n F 1 dX10_reason_19 rfl rfl ?_
    refine am_iconst F (v := (0 : Int32)) dX10_reason_20 (by decide) ?_
    obtain ⟨v10, M9, h8, h⟩ := am_bE h
    refine am_callVi F [.int a1, .int (0 : Int32)] lyk_174 (by decide) rfl cw_X10_209 (c_X10_item l D E z a1 (0 : Int32) M7 v10 M9 h8) yn_X10_item rfl ⟨Nat.le_of_ble_eq_true rfl, Nat.le_of_ble_eq_true rfl⟩ rfl rfl (Nat.le_of_ble_eq_true rfl) ⟨Nat.zero_le _, Nat.zero_le _⟩ dX10_reason_21 rfl ?_
    refine am_istore_n F [(3, .int v10), (0, .ref (z + 174)), (1, .int a1), (2, .int a2)] dX10_reason_24 rfl (by decide) rfl ?_
    refine am_aload_n F 1 dX10_reason_25 rfl rfl ?_
    refine am_iload_n F 3 dX10_reason_26 rfl rfl ?_
    refine am_aload_n F 1 dX10_reason_27 rfl rfl ?_
    refine am_iload_n F 3 dX10_reason_28 rfl rfl ?_
    refine am_iconst F (v := (0 : Int32)) dX10_reason_29 (by decide) ?_
    obtain ⟨v13, M12, h11, h⟩ := am_bE h
    refine am_callVi F [.int a2, .int (0 : Int32)] lyk_174 (by decide) rfl cw_X10_58 (c_X10_of l D E z a2 (0 : Int32) M9 v13 M12 h11) yn_X10_of rfl ⟨Nat.le_of_ble_eq_true rfl, Nat.le_of_ble_eq_true rfl⟩ rfl rfl (Nat.le_of_ble_eq_true rfl) ⟨Nat.zero_le _, Nat.zero_le _⟩ dX10_reason_30 rfl ?_
    refine am_iconst F (v := (0 : Int32)) dX10_reason_33 (by decide) ?_
    refine am_iload_n F 0 dX10_reason_34 rfl rfl ?_
    refine am_iconst F (v := (0 : Int32)) dX10_reason_35 (by decide) ?_
    obtain ⟨v16, M15, h14, h⟩ := am_bE h
    refine am_callVi F [.int a2, .int v13, .int (0 : Int32), .int v10, .int (0 : Int32)] lyk_174 (by decide) rfl cw_X10_138 (c_X10_routes l D E z a2 v13 (0 : Int32) v10 (0 : Int32) M12 v16 M15 h14) yn_X10_routes rfl ⟨Nat.le_of_ble_eq_true rfl, Nat.le_of_ble_eq_true rfl⟩ rfl rfl (Nat.le_of_ble_eq_true rfl) ⟨Nat.zero_le _, Nat.zero_le _⟩ dX10_reason_36 rfl ?_
    refine am_if_ne F (tgt := 44) dX10_reason_39 (by decide) (fun c47 => ?_) (fun c47 => ?_)
    · have h := (if_neg c47).symm.trans h
      refine am_aload_n F 1 dX10_reason_44 rfl rfl ?_
      refine gf_X10_129 F lyk_174 dX10_reason_45 ?_
      refine am_istore F [(4, .int (am_g M15 174 16)), (3, .int v10), (0, .ref (z + 174)), (1, .int a1), (2, .int a2)] dX10_reason_48 (by decide) rfl ?_
      refine am_iload F 0 dX10_reason_50 rfl ?_
      refine am_aload_n F 2 dX10_reason_52 rfl rfl ?_
      refine am_iload_n F 3 dX10_reason_53 rfl rfl ?_
      refine am_iconst F (v := (2 : Int32)) dX10_reason_54 (by decide) ?_
      obtain ⟨v19, M18, h17, h⟩ := am_bE h
      refine am_callVi F [.int a1, .int (2 : Int32)] lyk_174 (by decide) rfl cw_X10_209 (c_X10_item l D E z a1 (2 : Int32) M15 v19 M18 h17) yn_X10_item rfl ⟨Nat.le_of_ble_eq_true rfl, Nat.le_of_ble_eq_true rfl⟩ rfl rfl (Nat.le_of_ble_eq_true rfl) ⟨Nat.zero_le _, Nat.zero_le _⟩ dX10_reason_55 rfl ?_
      refine am_aload_n F 2 dX10_reason_58 rfl rfl ?_
      refine gf_X10_7 F lyk_174 dX10_reason_59 ?_
      refine am_iconst F (v := (0 : Int32)) dX10_reason_62 (by decide) ?_
      obtain ⟨q20, h⟩ := am_ciE h
      refine am_iald F lyk_175 q20 dX10_reason_63 ?_
      refine am_isub F dX10_reason_64 ?_
      refine am_max F dX10_reason_65 wd_1631 (Nat.le_of_ble_eq_true rfl) (Nat.le_of_ble_eq_true rfl) (Nat.le_of_ble_eq_true rfl) (Nat.le_of_ble_eq_true rfl) ?_
      refine am_istore F [(5, .int (if (am_g M15 174 16) < (v19 - (am_g M18 175 (0 : Int32).toNatClampNeg)) then (v19 - (am_g M18 175 (0 : Int32).toNatClampNeg)) else (am_g M15 174 16))), (4, .int (am_g M15 174 16)), (3, .int v10), (0, .ref (z + 174)), (1, .int a1), (2, .int a2)] dX10_reason_68 (by decide) rfl ?_
      refine am_iload F 0 dX10_reason_70 rfl ?_
      refine am_bipush F (v := (30 : Int32)) dX10_reason_72 (by decide) ?_
      refine am_icmp_gt F (tgt := 90) dX10_reason_74 (by decide) (fun c46 => ?_) (fun c46 => ?_)
      · have h := (if_pos c46).symm.trans h
        refine am_iconst F (v := (3 : Int32)) dX10_reason_90 (by decide) ?_
        exact am_iret F hr h dX10_reason_91
      · have h := (if_neg c46).symm.trans h
        refine am_aload_n F 3 dX10_reason_77 rfl rfl ?_
        refine am_iload_n F 5 dX10_reason_78 rfl rfl ?_
        refine am_iload_n F 2 dX10_reason_79 rfl rfl ?_
        refine am_iload F 1 dX10_reason_80 rfl ?_
        refine am_iload F 0 dX10_reason_82 rfl ?_
        obtain ⟨v23, M22, h21, h⟩ := am_bE h
        refine am_callVi F [.int a2, .int v10, .int (am_g M15 174 16), .int (if (am_g M15 174 16) < (v19 - (am_g M18 175 (0 : Int32).toNatClampNeg)) then (v19 - (am_g M18 175 (0 : Int32).toNatClampNeg)) else (am_g M15 174 16))] lyk_174 (by decide) rfl cw_X10_112 (c_X10_canWait l D E z a2 v10 (am_g M15 174 16) (if (am_g M15 174 16) < (v19 - (am_g M18 175 (0 : Int32).toNatClampNeg)) then (v19 - (am_g M18 175 (0 : Int32).toNatClampNeg)) else (am_g M15 174 16)) M18 v23 M22 h21) yn_X10_canWait rfl ⟨Nat.le_of_ble_eq_true rfl, Nat.le_of_ble_eq_true rfl⟩ rfl rfl (Nat.le_of_ble_eq_true rfl) ⟨Nat.zero_le _, Nat.zero_le _⟩ dX10_reason_84 rfl ?_
        refine am_if_ne F (tgt := 92) dX10_reason_87 (by decide) (fun c45 => ?_) (fun c45 => ?_)
        · have h := (if_neg c45).symm.trans h
          refine am_iload F 1 dX10_reason_92 rfl ?_
          refine am_istore F [(6, .int (am_g M15 174 16)), (5, .int (if (am_g M15 174 16) < (v19 - (am_g M18 175 (0 : Int32).toNatClampNeg)) then (v19 - (am_g M18 175 (0 : Int32).toNatClampNeg)) else (am_g M15 174 16))), (4, .int (am_g M15 174 16)), (3, .int v10), (0, .ref (z + 174)), (1, .int a1), (2, .int a2)] dX10_reason_94 (by decide) rfl ?_
          obtain ⟨x26, M27, h28, h⟩ := am_bE h
          refine am_sub (lv' := [(0, .ref (z + 174)), (1, .int a1), (2, .int a2), (3, .int v10), (5, .int (if (am_g M15 174 16) < (v19 - (am_g M18 175 (0 : Int32).toNatClampNeg)) then (v19 - (am_g M18 175 (0 : Int32).toNatClampNeg)) else (am_g M15 174 16))), (6, .int (am_g M15 174 16))]) [4, 5, 6, 3, 1, 0] rfl (cl_X10_reason_L96 F a1 a2 v10 (if (am_g M15 174 16) < (v19 - (am_g M18 175 (0 : Int32).toNatClampNeg)) then (v19 - (am_g M18 175 (0 : Int32).toNatClampNeg)) else (am_g M15 174 16)) am_fu (am_g M15 174 16) M22 x26 M27 h28 ?_)
          refine am_aload_n F 0 dX10_reason_129 rfl rfl ?_
          refine am_iload_n F 2 dX10_reason_130 rfl rfl ?_
          refine am_iload_n F 3 dX10_reason_131 rfl rfl ?_
          refine am_iload F 4 dX10_reason_132 rfl ?_
          refine am_aload_n F 0 dX10_reason_134 rfl rfl ?_
          refine am_iload_n F 1 dX10_reason_135 rfl rfl ?_
          refine am_iconst F (v := (1 : Int32)) dX10_reason_136 (by decide) ?_
          obtain ⟨v31, M30, h29, h⟩ := am_bE h
          refine am_callVi F [.int a1, .int (1 : Int32)] lyk_174 (by decide) rfl cw_X10_209 (c_X10_item l D E z a1 (1 : Int32) M27 v31 M30 h29) yn_X10_item rfl ⟨Nat.le_of_ble_eq_true rfl, Nat.le_of_ble_eq_true rfl⟩ rfl rfl (Nat.le_of_ble_eq_true rfl) ⟨Nat.zero_le _, Nat.zero_le _⟩ dX10_reason_137 rfl ?_
          refine am_iconst F (v := (1 : Int32)) dX10_reason_140 (by decide) ?_
          obtain ⟨v34, M33, h32, h⟩ := am_bE h
          refine am_callVi F [.int a2, .int v10, .int (if (am_g M15 174 16) < (v19 - (am_g M18 175 (0 : Int32).toNatClampNeg)) then (v19 - (am_g M18 175 (0 : Int32).toNatClampNeg)) else (am_g M15 174 16)), .int v31, .int (1 : Int32)] lyk_174 (by decide) rfl cw_X10_138 (c_X10_routes l D E z a2 v10 (if (am_g M15 174 16) < (v19 - (am_g M18 175 (0 : Int32).toNatClampNeg)) then (v19 - (am_g M18 175 (0 : Int32).toNatClampNeg)) else (am_g M15 174 16)) v31 (1 : Int32) M30 v34 M33 h32) yn_X10_routes rfl ⟨Nat.le_of_ble_eq_true rfl, Nat.le_of_ble_eq_true rfl⟩ rfl rfl (Nat.le_of_ble_eq_true rfl) ⟨Nat.zero_le _, Nat.zero_le _⟩ dX10_reason_141 rfl ?_
          refine am_if_ne F (tgt := 149) dX10_reason_144 (by decide) (fun c44 => ?_) (fun c44 => ?_)
          · have h := (if_neg c44).symm.trans h
            refine am_aload_n F 0 dX10_reason_149 rfl rfl ?_
            refine gf_X10_7 F lyk_174 dX10_reason_150 ?_
            refine am_iconst F (v := (0 : Int32)) dX10_reason_153 (by decide) ?_
            obtain ⟨q35, h⟩ := am_ciE h
            refine am_iald F lyk_175 q35 dX10_reason_154 ?_
            refine am_aload_n F 0 dX10_reason_155 rfl rfl ?_
            refine gf_X10_129 F lyk_174 dX10_reason_156 ?_
            refine am_iadd F dX10_reason_159 ?_
            refine am_aload_n F 0 dX10_reason_160 rfl rfl ?_
            refine am_iload_n F 1 dX10_reason_161 rfl rfl ?_
            refine am_iconst F (v := (3 : Int32)) dX10_reason_162 (by decide) ?_
            obtain ⟨v38, M37, h36, h⟩ := am_bE h
            refine am_callVi F [.int a1, .int (3 : Int32)] lyk_174 (by decide) rfl cw_X10_209 (c_X10_item l D E z a1 (3 : Int32) M33 v38 M37 h36) yn_X10_item rfl ⟨Nat.le_of_ble_eq_true rfl, Nat.le_of_ble_eq_true rfl⟩ rfl rfl (Nat.le_of_ble_eq_true rfl) ⟨Nat.zero_le _, Nat.zero_le _⟩ dX10_reason_163 rfl ?_
            refine am_icmp_le F (tgt := 171) dX10_reason_166 (by decide) (fun c43 => ?_) (fun c43 => ?_)
            · have h := (if_pos c43).symm.trans h
              refine am_aload_n F 0 dX10_reason_171 rfl rfl ?_
              refine gf_X10_119 F lyk_174 dX10_reason_172 ?_
              refine am_aload_n F 0 dX10_reason_175 rfl rfl ?_
              refine am_iload_n F 2 dX10_reason_176 rfl rfl ?_
              refine am_iconst F (v := (1 : Int32)) dX10_reason_177 (by decide) ?_
              obtain ⟨v41, M40, h39, h⟩ := am_bE h
              refine am_callVi F [.int a2, .int (1 : Int32)] lyk_174 (by decide) rfl cw_X10_58 (c_X10_of l D E z a2 (1 : Int32) M37 v41 M40 h39) yn_X10_of rfl ⟨Nat.le_of_ble_eq_true rfl, Nat.le_of_ble_eq_true rfl⟩ rfl rfl (Nat.le_of_ble_eq_true rfl) ⟨Nat.zero_le _, Nat.zero_le _⟩ dX10_reason_178 rfl ?_
              refine am_icmp_le F (tgt := 189) dX10_reason_181 (by decide) (fun c42 => ?_) (fun c42 => ?_)
              · have h := (if_pos c42).symm.trans h
                refine am_iconst F (v := (0 : Int32)) dX10_reason_189 (by decide) ?_
                exact am_iret F hr h dX10_reason_190
              · have h := (if_neg c42).symm.trans h
                refine am_bipush F (v := (6 : Int32)) dX10_reason_184 (by decide) ?_
                refine am_goto F (tgt := 190) dX10_reason_186 (by decide) ?_
                exact am_iret F hr h dX10_reason_190
            · have h := (if_neg c43).symm.trans h
              refine am_iconst F (v := (5 : Int32)) dX10_reason_169 (by decide) ?_
              exact am_iret F hr h dX10_reason_170
          · have h := (if_pos c44).symm.trans h
            refine am_iconst F (v := (4 : Int32)) dX10_reason_147 (by decide) ?_
            exact am_iret F hr h dX10_reason_148
        · have h := (if_pos c45).symm.trans h
          refine am_iconst F (v := (3 : Int32)) dX10_reason_90 (by decide) ?_
          exact am_iret F hr h dX10_reason_91
    · have h := (if_pos c47).symm.trans h
      refine am_iconst F (v := (2 : Int32)) dX10_reason_42 (by decide) ?_
      exact am_iret F hr h dX10_reason_43
  · have h := (if_neg c48).symm.trans h
    refine am_iconst F (v := (1 : Int32)) dX10_reason_8 (by decide) ?_
    exact am_iret F hr h dX10_reason_9
/-! AisleSchedulerModel.isToServe(I)Z -/
abbrev rm_X10_isToServe : Room := { frames := 2, cells := 0, slots := 0, locals := 46 }
theorem yn_X10_isToServe : am_yn yX10_isToServe 1 := ⟨⟨by decide +kernel, by decide +kernel⟩, by decide +kernel⟩
def g_X10_isToServe (a1 : Int32) (M : am_M) : Option (Int32 × am_M) := (am_b (g_X10_item a1 (4 : Int32) M) (fun v3 M2 => (if v3 = (0 : Int32) then (some ((1 : Int32), M2)) else (am_b (g_X10_item a1 (4 : Int32) M2) (fun v6 M5 => (if v6 = (3 : Int32) then (some ((1 : Int32), M5)) else (some ((0 : Int32), M5))))))))
set_option maxHeartbeats 4000000 in
set_option maxRecDepth 100000 in
theorem c_X10_isToServe (l : Launch) (D : va_G) (E : Nat → ClassId) (z : Nat) (a1 : Int32) (M : am_M) (r0 : Int32) (M1 : am_M) (h : g_X10_isToServe a1 M = some (r0, M1)) : am_Mi l yX10_isToServe cX10_isToServe 2 (some .boolean) rm_X10_isToServe D E z [.ref (z + 174), .int a1] M r0 M1 := by
  unfold g_X10_isToServe at h
  refine am_of (own := RX10) (by decide +kernel) rfl (by exact Nat.le_of_ble_eq_true rfl) ?_
  intro p e s m args below meth c F hr
  show am_W p l e rm_X10_isToServe s m args below meth c _ 2 D E z 0 0 M 0 [(0, .ref (z + 174)), (1, .int a1)] []
  refine am_aload_n F 0 dX10_isToServe_0 rfl rfl ?_
  refine am_iload_n F 1 dX10_isToServe_1 rfl rfl ?_
  refine am_iconst F (v := (4 : Int32)) dX10_isToServe_2 (by decide) ?_
  obtain ⟨v3, M2, h1, h⟩ := am_bE h
  refine am_callVi F [.int a1, .int (4 : Int32)] lyk_174 (by decide) rfl cw_X10_209 (c_X10_item l D E z a1 (4 : Int32) M v3 M2 h1) yn_X10_item rfl ⟨Nat.le_of_ble_eq_true rfl, Nat.le_of_ble_eq_true rfl⟩ rfl rfl (Nat.le_of_ble_eq_true rfl) ⟨Nat.zero_le _, Nat.zero_le _⟩ dX10_isToServe_3 rfl ?_
  refine am_if_eq F (tgt := 19) dX10_isToServe_6 (by decide) (fun c8 => ?_) (fun c8 => ?_)
  · have h := (if_pos c8).symm.trans h
    refine am_iconst F (v := (1 : Int32)) dX10_isToServe_19 (by decide) ?_
    refine am_goto F (tgt := 24) dX10_isToServe_20 (by decide) ?_
    exact am_zret F hr (by decide) h dX10_isToServe_24
  · have h := (if_neg c8).symm.trans h
    refine am_aload_n F 0 dX10_isToServe_9 rfl rfl ?_
    refine am_iload_n F 1 dX10_isToServe_10 rfl rfl ?_
    refine am_iconst F (v := (4 : Int32)) dX10_isToServe_11 (by decide) ?_
    obtain ⟨v6, M5, h4, h⟩ := am_bE h
    refine am_callVi F [.int a1, .int (4 : Int32)] lyk_174 (by decide) rfl cw_X10_209 (c_X10_item l D E z a1 (4 : Int32) M2 v6 M5 h4) yn_X10_item rfl ⟨Nat.le_of_ble_eq_true rfl, Nat.le_of_ble_eq_true rfl⟩ rfl rfl (Nat.le_of_ble_eq_true rfl) ⟨Nat.zero_le _, Nat.zero_le _⟩ dX10_isToServe_12 rfl ?_
    refine am_iconst F (v := (3 : Int32)) dX10_isToServe_15 (by decide) ?_
    refine am_icmp_ne F (tgt := 23) dX10_isToServe_16 (by decide) (fun c7 => ?_) (fun c7 => ?_)
    · have h := (if_neg c7).symm.trans h
      refine am_iconst F (v := (0 : Int32)) dX10_isToServe_23 (by decide) ?_
      exact am_zret F hr (by decide) h dX10_isToServe_24
    · have h := (if_pos c7).symm.trans h
      refine am_iconst F (v := (1 : Int32)) dX10_isToServe_19 (by decide) ?_
      refine am_goto F (tgt := 24) dX10_isToServe_20 (by decide) ?_
      exact am_zret F hr (by decide) h dX10_isToServe_24
/-! AisleSchedulerModel.serves(II)V -/
abbrev rm_X10_serves : Room := { frames := 4, cells := 0, slots := 0, locals := 91 }
theorem yn_X10_serves : am_yn yX10_serves 2 := ⟨⟨by decide +kernel, by decide +kernel⟩, by decide +kernel⟩
def g_X10_serves (a1 : Int32) (a2 : Int32) (M : am_M) : Option (Unit × am_M) := (am_b (g_X10_follows a2 M) (fun _ M2 => (am_b (g_X10_put a2 (4 : Int32) a1 M2) (fun _ M4 => (am_b (g_X10_set a1 (4 : Int32) (1 : Int32) M4) (fun _ M6 => (am_b (g_X10_set a1 (5 : Int32) (0 : Int32) M6) (fun _ M8 => (am_b (g_X10_set a1 (6 : Int32) a2 M8) (fun _ M10 => (some ((), M10))))))))))))
set_option maxHeartbeats 4000000 in
set_option maxRecDepth 100000 in
theorem c_X10_serves (l : Launch) (D : va_G) (E : Nat → ClassId) (z : Nat) (a1 : Int32) (a2 : Int32) (M : am_M)  (M1 : am_M) (h : g_X10_serves a1 a2 M = some ((), M1)) : am_Mv l yX10_serves cX10_serves 3 none rm_X10_serves D E z [.ref (z + 174), .int a1, .int a2] M M1 := by
  unfold g_X10_serves at h
  refine am_of (own := RX10) (by decide +kernel) rfl (by exact Nat.le_of_ble_eq_true rfl) ?_
  intro p e s m args below meth c F hr
  show am_W p l e rm_X10_serves s m args below meth c _ 3 D E z 0 0 M 0 [(0, .ref (z + 174)), (1, .int a1), (2, .int a2)] []
  refine am_aload_n F 0 dX10_serves_0 rfl rfl ?_
  refine am_iload_n F 2 dX10_serves_1 rfl rfl ?_
  obtain ⟨_, M2, h1, h⟩ := am_bE h
  refine am_callVv F [.int a2] lyk_174 (by decide) rfl cw_X10_194 (c_X10_follows l D E z a2 M M2 h1) yn_X10_follows rfl ⟨Nat.le_of_ble_eq_true rfl, Nat.le_of_ble_eq_true rfl⟩ rfl rfl (Nat.le_of_ble_eq_true rfl) ⟨Nat.zero_le _, Nat.zero_le _⟩ dX10_serves_2 rfl ?_
  refine am_aload_n F 0 dX10_serves_5 rfl rfl ?_
  refine am_iload_n F 2 dX10_serves_6 rfl rfl ?_
  refine am_iconst F (v := (4 : Int32)) dX10_serves_7 (by decide) ?_
  refine am_iload_n F 1 dX10_serves_8 rfl rfl ?_
  obtain ⟨_, M4, h3, h⟩ := am_bE h
  refine am_callVv F [.int a2, .int (4 : Int32), .int a1] lyk_174 (by decide) rfl cw_X10_145 (c_X10_put l D E z a2 (4 : Int32) a1 M2 M4 h3) yn_X10_put rfl ⟨Nat.le_of_ble_eq_true rfl, Nat.le_of_ble_eq_true rfl⟩ rfl rfl (Nat.le_of_ble_eq_true rfl) ⟨Nat.zero_le _, Nat.zero_le _⟩ dX10_serves_9 rfl ?_
  refine am_aload_n F 0 dX10_serves_12 rfl rfl ?_
  refine am_iload_n F 1 dX10_serves_13 rfl rfl ?_
  refine am_iconst F (v := (4 : Int32)) dX10_serves_14 (by decide) ?_
  refine am_iconst F (v := (1 : Int32)) dX10_serves_15 (by decide) ?_
  obtain ⟨_, M6, h5, h⟩ := am_bE h
  refine am_callVv F [.int a1, .int (4 : Int32), .int (1 : Int32)] lyk_174 (by decide) rfl cw_X10_142 (c_X10_set l D E z a1 (4 : Int32) (1 : Int32) M4 M6 h5) yn_X10_set rfl ⟨Nat.le_of_ble_eq_true rfl, Nat.le_of_ble_eq_true rfl⟩ rfl rfl (Nat.le_of_ble_eq_true rfl) ⟨Nat.zero_le _, Nat.zero_le _⟩ dX10_serves_16 rfl ?_
  refine am_aload_n F 0 dX10_serves_19 rfl rfl ?_
  refine am_iload_n F 1 dX10_serves_20 rfl rfl ?_
  refine am_iconst F (v := (5 : Int32)) dX10_serves_21 (by decide) ?_
  refine am_iconst F (v := (0 : Int32)) dX10_serves_22 (by decide) ?_
  obtain ⟨_, M8, h7, h⟩ := am_bE h
  refine am_callVv F [.int a1, .int (5 : Int32), .int (0 : Int32)] lyk_174 (by decide) rfl cw_X10_142 (c_X10_set l D E z a1 (5 : Int32) (0 : Int32) M6 M8 h7) yn_X10_set rfl ⟨Nat.le_of_ble_eq_true rfl, Nat.le_of_ble_eq_true rfl⟩ rfl rfl (Nat.le_of_ble_eq_true rfl) ⟨Nat.zero_le _, Nat.zero_le _⟩ dX10_serves_23 rfl ?_
  refine am_aload_n F 0 dX10_serves_26 rfl rfl ?_
  refine am_iload_n F 1 dX10_serves_27 rfl rfl ?_
  refine am_bipush F (v := (6 : Int32)) dX10_serves_28 (by decide) ?_
  refine am_iload_n F 2 dX10_serves_30 rfl rfl ?_
  obtain ⟨_, M10, h9, h⟩ := am_bE h
  refine am_callVv F [.int a1, .int (6 : Int32), .int a2] lyk_174 (by decide) rfl cw_X10_142 (c_X10_set l D E z a1 (6 : Int32) a2 M8 M10 h9) yn_X10_set rfl ⟨Nat.le_of_ble_eq_true rfl, Nat.le_of_ble_eq_true rfl⟩ rfl rfl (Nat.le_of_ble_eq_true rfl) ⟨Nat.zero_le _, Nat.zero_le _⟩ dX10_serves_31 rfl ?_
  exact am_vret F hr h dX10_serves_34
/-! AisleSchedulerModel.serve(II)I -/
abbrev rm_X10_serve : Room := { frames := 8, cells := 0, slots := 0, locals := 199 }
theorem yn_X10_serve : am_yn yX10_serve 2 := ⟨⟨by decide +kernel, by decide +kernel⟩, by decide +kernel⟩
def g_X10_serve (a1 : Int32) (a2 : Int32) (M : am_M) : Option (Int32 × am_M) := (am_b (g_X10_isTask a1 (am_s M 174 0 (0 : Int32))) (fun v3 M2 => (if v3 = (0 : Int32) then (am_b (g_X10_fails (1 : Int32) M2) (fun v6 M5 => (some (v6, M5)))) else (am_b (g_X10_isRobot a2 M2) (fun v9 M8 => (if v9 = (0 : Int32) then (am_b (g_X10_fails (1 : Int32) M8) (fun v31 M30 => (some (v31, M30)))) else (am_b (g_X10_isToServe a1 M8) (fun v12 M11 => (if v12 = (0 : Int32) then (am_b (g_X10_fails (2 : Int32) M11) (fun v27 M26 => (some (v27, M26)))) else (am_b (g_X10_reason a1 a2 M11) (fun v15 M14 => (if v15 = (0 : Int32) then (am_b (g_X10_serves a1 a2 M14) (fun _ M21 => (am_b (g_X10_set a1 (5 : Int32) v15 M21) (fun _ M23 => (some (v15, M23)))))) else (am_b (g_X10_set a1 (4 : Int32) (3 : Int32) M14) (fun _ M17 => (am_b (g_X10_set a1 (5 : Int32) v15 M17) (fun _ M19 => (some (v15, M19))))))))))))))))))
set_option maxHeartbeats 4000000 in
set_option maxRecDepth 100000 in
theorem c_X10_serve (l : Launch) (D : va_G) (E : Nat → ClassId) (z : Nat) (a1 : Int32) (a2 : Int32) (M : am_M) (r0 : Int32) (M1 : am_M) (h : g_X10_serve a1 a2 M = some (r0, M1)) : am_Mi l yX10_serve cX10_serve 4 (some .int) rm_X10_serve D E z [.ref (z + 174), .int a1, .int a2] M r0 M1 := by
  unfold g_X10_serve at h
  refine am_of (own := RX10) (by decide +kernel) rfl (by exact Nat.le_of_ble_eq_true rfl) ?_
  intro p e s m args below meth c F hr
  show am_W p l e rm_X10_serve s m args below meth c _ 4 D E z 0 0 M 0 [(0, .ref (z + 174)), (1, .int a1), (2, .int a2)] []
  refine am_aload_n F 0 dX10_serve_0 rfl rfl ?_
  refine am_iconst F (v := (0 : Int32)) dX10_serve_1 (by decide) ?_
  refine pf_X10_51 F lyk_174 dX10_serve_2 ?_
  refine am_aload_n F 0 dX10_serve_5 rfl rfl ?_
  refine am_iload_n F 1 dX10_serve_6 rfl rfl ?_
  obtain ⟨v3, M2, h1, h⟩ := am_bE h
  refine am_callVi F [.int a1] lyk_174 (by decide) rfl cw_X10_215 (c_X10_isTask l D E z a1 (am_s M 174 0 (0 : Int32)) v3 M2 h1) yn_X10_isTask rfl ⟨Nat.le_of_ble_eq_true rfl, Nat.le_of_ble_eq_true rfl⟩ rfl rfl (Nat.le_of_ble_eq_true rfl) ⟨Nat.zero_le _, Nat.zero_le _⟩ dX10_serve_7 rfl ?_
  refine am_if_eq F (tgt := 21) dX10_serve_10 (by decide) (fun c33 => ?_) (fun c33 => ?_)
  · have h := (if_pos c33).symm.trans h
    refine am_aload_n F 0 dX10_serve_21 rfl rfl ?_
    refine am_iconst F (v := (1 : Int32)) dX10_serve_22 (by decide) ?_
    obtain ⟨v6, M5, h4, h⟩ := am_bE h
    refine am_callVi F [.int (1 : Int32)] lyk_174 (by decide) rfl cw_X10_164 (c_X10_fails l D E z (1 : Int32) M2 v6 M5 h4) yn_X10_fails rfl ⟨Nat.le_of_ble_eq_true rfl, Nat.le_of_ble_eq_true rfl⟩ rfl rfl (Nat.le_of_ble_eq_true rfl) ⟨Nat.zero_le _, Nat.zero_le _⟩ dX10_serve_23 rfl ?_
    exact am_iret F hr h dX10_serve_26
  · have h := (if_neg c33).symm.trans h
    refine am_aload_n F 0 dX10_serve_13 rfl rfl ?_
    refine am_iload_n F 2 dX10_serve_14 rfl rfl ?_
    obtain ⟨v9, M8, h7, h⟩ := am_bE h
    refine am_callVi F [.int a2] lyk_174 (by decide) rfl cw_X10_173 (c_X10_isRobot l D E z a2 M2 v9 M8 h7) yn_X10_isRobot rfl ⟨Nat.le_of_ble_eq_true rfl, Nat.le_of_ble_eq_true rfl⟩ rfl rfl (Nat.le_of_ble_eq_true rfl) ⟨Nat.zero_le _, Nat.zero_le _⟩ dX10_serve_15 rfl ?_
    refine am_if_ne F (tgt := 27) dX10_serve_18 (by decide) (fun c32 => ?_) (fun c32 => ?_)
    · have h := (if_neg c32).symm.trans h
      refine am_aload_n F 0 dX10_serve_27 rfl rfl ?_
      refine am_iload_n F 1 dX10_serve_28 rfl rfl ?_
      obtain ⟨v12, M11, h10, h⟩ := am_bE h
      refine am_callVi F [.int a1] lyk_174 (by decide) rfl cw_X10_218 (c_X10_isToServe l D E z a1 M8 v12 M11 h10) yn_X10_isToServe rfl ⟨Nat.le_of_ble_eq_true rfl, Nat.le_of_ble_eq_true rfl⟩ rfl rfl (Nat.le_of_ble_eq_true rfl) ⟨Nat.zero_le _, Nat.zero_le _⟩ dX10_serve_29 rfl ?_
      refine am_if_ne F (tgt := 41) dX10_serve_32 (by decide) (fun c28 => ?_) (fun c28 => ?_)
      · have h := (if_neg c28).symm.trans h
        refine am_aload_n F 0 dX10_serve_41 rfl rfl ?_
        refine am_iload_n F 1 dX10_serve_42 rfl rfl ?_
        refine am_iload_n F 2 dX10_serve_43 rfl rfl ?_
        obtain ⟨v15, M14, h13, h⟩ := am_bE h
        refine am_callVi F [.int a1, .int a2] lyk_174 (by decide) rfl cw_X10_221 (c_X10_reason l D E z a1 a2 M11 v15 M14 h13) yn_X10_reason rfl ⟨Nat.le_of_ble_eq_true rfl, Nat.le_of_ble_eq_true rfl⟩ rfl rfl (Nat.le_of_ble_eq_true rfl) ⟨Nat.zero_le _, Nat.zero_le _⟩ dX10_serve_44 rfl ?_
        refine am_istore_n F [(3, .int v15), (0, .ref (z + 174)), (1, .int a1), (2, .int a2)] dX10_serve_47 rfl (by decide) rfl ?_
        refine am_iload_n F 0 dX10_serve_48 rfl rfl ?_
        refine am_if_ne F (tgt := 61) dX10_serve_49 (by decide) (fun c24 => ?_) (fun c24 => ?_)
        · have h := (if_neg c24).symm.trans h
          refine am_aload_n F 1 dX10_serve_61 rfl rfl ?_
          refine am_iload_n F 2 dX10_serve_62 rfl rfl ?_
          refine am_iconst F (v := (4 : Int32)) dX10_serve_63 (by decide) ?_
          refine am_iconst F (v := (3 : Int32)) dX10_serve_64 (by decide) ?_
          obtain ⟨_, M17, h16, h⟩ := am_bE h
          refine am_callVv F [.int a1, .int (4 : Int32), .int (3 : Int32)] lyk_174 (by decide) rfl cw_X10_142 (c_X10_set l D E z a1 (4 : Int32) (3 : Int32) M14 M17 h16) yn_X10_set rfl ⟨Nat.le_of_ble_eq_true rfl, Nat.le_of_ble_eq_true rfl⟩ rfl rfl (Nat.le_of_ble_eq_true rfl) ⟨Nat.zero_le _, Nat.zero_le _⟩ dX10_serve_65 rfl ?_
          refine am_aload_n F 1 dX10_serve_68 rfl rfl ?_
          refine am_iload_n F 2 dX10_serve_69 rfl rfl ?_
          refine am_iconst F (v := (5 : Int32)) dX10_serve_70 (by decide) ?_
          refine am_iload_n F 0 dX10_serve_71 rfl rfl ?_
          obtain ⟨_, M19, h18, h⟩ := am_bE h
          refine am_callVv F [.int a1, .int (5 : Int32), .int v15] lyk_174 (by decide) rfl cw_X10_142 (c_X10_set l D E z a1 (5 : Int32) v15 M17 M19 h18) yn_X10_set rfl ⟨Nat.le_of_ble_eq_true rfl, Nat.le_of_ble_eq_true rfl⟩ rfl rfl (Nat.le_of_ble_eq_true rfl) ⟨Nat.zero_le _, Nat.zero_le _⟩ dX10_serve_72 rfl ?_
          refine am_iload_n F 0 dX10_serve_75 rfl rfl ?_
          exact am_iret F hr h dX10_serve_76
        · have h := (if_pos c24).symm.trans h
          refine am_aload_n F 1 dX10_serve_52 rfl rfl ?_
          refine am_iload_n F 2 dX10_serve_53 rfl rfl ?_
          refine am_iload_n F 3 dX10_serve_54 rfl rfl ?_
          obtain ⟨_, M21, h20, h⟩ := am_bE h
          refine am_callVv F [.int a1, .int a2] lyk_174 (by decide) rfl cw_X10_224 (c_X10_serves l D E z a1 a2 M14 M21 h20) yn_X10_serves rfl ⟨Nat.le_of_ble_eq_true rfl, Nat.le_of_ble_eq_true rfl⟩ rfl rfl (Nat.le_of_ble_eq_true rfl) ⟨Nat.zero_le _, Nat.zero_le _⟩ dX10_serve_55 rfl ?_
          refine am_goto F (tgt := 68) dX10_serve_58 (by decide) ?_
          refine am_aload_n F 1 dX10_serve_68 rfl rfl ?_
          refine am_iload_n F 2 dX10_serve_69 rfl rfl ?_
          refine am_iconst F (v := (5 : Int32)) dX10_serve_70 (by decide) ?_
          refine am_iload_n F 0 dX10_serve_71 rfl rfl ?_
          obtain ⟨_, M23, h22, h⟩ := am_bE h
          refine am_callVv F [.int a1, .int (5 : Int32), .int v15] lyk_174 (by decide) rfl cw_X10_142 (c_X10_set l D E z a1 (5 : Int32) v15 M21 M23 h22) yn_X10_set rfl ⟨Nat.le_of_ble_eq_true rfl, Nat.le_of_ble_eq_true rfl⟩ rfl rfl (Nat.le_of_ble_eq_true rfl) ⟨Nat.zero_le _, Nat.zero_le _⟩ dX10_serve_72 rfl ?_
          refine am_iload_n F 0 dX10_serve_75 rfl rfl ?_
          exact am_iret F hr h dX10_serve_76
      · have h := (if_pos c28).symm.trans h
        refine am_aload_n F 0 dX10_serve_35 rfl rfl ?_
        refine am_iconst F (v := (2 : Int32)) dX10_serve_36 (by decide) ?_
        obtain ⟨v27, M26, h25, h⟩ := am_bE h
        refine am_callVi F [.int (2 : Int32)] lyk_174 (by decide) rfl cw_X10_164 (c_X10_fails l D E z (2 : Int32) M11 v27 M26 h25) yn_X10_fails rfl ⟨Nat.le_of_ble_eq_true rfl, Nat.le_of_ble_eq_true rfl⟩ rfl rfl (Nat.le_of_ble_eq_true rfl) ⟨Nat.zero_le _, Nat.zero_le _⟩ dX10_serve_37 rfl ?_
        exact am_iret F hr h dX10_serve_40
    · have h := (if_pos c32).symm.trans h
      refine am_aload_n F 0 dX10_serve_21 rfl rfl ?_
      refine am_iconst F (v := (1 : Int32)) dX10_serve_22 (by decide) ?_
      obtain ⟨v31, M30, h29, h⟩ := am_bE h
      refine am_callVi F [.int (1 : Int32)] lyk_174 (by decide) rfl cw_X10_164 (c_X10_fails l D E z (1 : Int32) M8 v31 M30 h29) yn_X10_fails rfl ⟨Nat.le_of_ble_eq_true rfl, Nat.le_of_ble_eq_true rfl⟩ rfl rfl (Nat.le_of_ble_eq_true rfl) ⟨Nat.zero_le _, Nat.zero_le _⟩ dX10_serve_23 rfl ?_
      exact am_iret F hr h dX10_serve_26
/-! AisleSchedulerModel.bestOf(IZ)I -/
abbrev rm_X10_bestOf : Room := { frames := 8, cells := 0, slots := 0, locals := 199 }
theorem yn_X10_bestOf : am_yn yX10_bestOf 2 := ⟨⟨by decide +kernel, by decide +kernel⟩, by decide +kernel⟩
def g_X10_bestOf_J38 (rc : Int32 → Int32 → Int32 → am_M → Option ((Int32) × am_M)) (a1 : Int32) (a2 : Int32) (a3 : Int32) (a4 : Int32) (a5 : Int32) (as0 : Int32) (M : am_M) : Option ((Int32) × am_M) := (if as0 = (0 : Int32) then (rc a3 a4 (a5 + (1 : Int32)) M) else (am_b (g_X10_reason a1 a5 M) (fun v4 M3 => (if v4 = (0 : Int32) then (if a3 = (-1 : Int32) then (rc a5 (am_g M3 174 16) (a5 + (1 : Int32)) M3) else (if a4 ≤ (am_g M3 174 16) then (rc a3 a4 (a5 + (1 : Int32)) M3) else (rc a5 (am_g M3 174 16) (a5 + (1 : Int32)) M3))) else (rc a3 a4 (a5 + (1 : Int32)) M3)))))
set_option maxHeartbeats 4000000 in
set_option maxRecDepth 100000 in
theorem cj_X10_bestOf_J38 {l : Launch} {p : Program} {e : Env} {s : State} {m : MethodId} {args : Array Value} {below : List Frame} {meth : Method} {c : Code} {Q : State → Prop} {D : va_G} {E : Nat → ClassId} {z : Nat} (F : am_F p s m args meth c cX10_bestOf 7 RX10 D E z) (rc : Int32 → Int32 → Int32 → am_M → Option ((Int32) × am_M)) (a1 : Int32) (a2 : Int32) (a3 : Int32) (a4 : Int32) (a5 : Int32) (as0 : Int32) (M : am_M) (x : Int32) (M1 : am_M) (h : g_X10_bestOf_J38 rc a1 a2 a3 a4 a5 as0 M = some (x, M1)) (HR : ∀ (b3 : Int32) (b4 : Int32) (b5 : Int32) (M2 : am_M), rc b3 b4 b5 M2 = some (x, M1) → am_W p l e rm_X10_bestOf s m args below meth c Q 7 D E z 0 0 M2 8 [(0, .ref (z + 174)), (1, .int a1), (2, .int a2), (3, .int b3), (4, .int b4), (5, .int b5)] []) (K : am_W p l e rm_X10_bestOf s m args below meth c Q 7 D E z 0 0 M1 84 [(3, .int x)] []) : am_W p l e rm_X10_bestOf s m args below meth c Q 7 D E z 0 0 M 38 [(0, .ref (z + 174)), (1, .int a1), (2, .int a2), (3, .int a3), (4, .int a4), (5, .int a5)] [.int as0] := by
  unfold g_X10_bestOf_J38 at h
  refine am_istore F [(6, .int as0), (0, .ref (z + 174)), (1, .int a1), (2, .int a2), (3, .int a3), (4, .int a4), (5, .int a5)] dX10_bestOf_38 (by decide) rfl ?_
  refine am_iload F 0 dX10_bestOf_40 rfl ?_
  refine am_if_eq F (tgt := 78) dX10_bestOf_42 (by decide) (fun c8 => ?_) (fun c8 => ?_)
  · have h := (if_pos c8).symm.trans h
    refine am_iinc F [(5, .int (a5 + (1 : Int32))), (6, .int as0), (0, .ref (z + 174)), (1, .int a1), (2, .int a2), (3, .int a3), (4, .int a4)] 6 dX10_bestOf_78 (by decide) rfl rfl rfl ?_
    refine am_goto F (tgt := 8) dX10_bestOf_81 (by decide) ?_
    exact am_sub (lv' := [(0, .ref (z + 174)), (1, .int a1), (2, .int a2), (3, .int a3), (4, .int a4), (5, .int (a5 + (1 : Int32)))]) [2, 3, 4, 5, 6, 0] rfl (HR a3 a4 (a5 + (1 : Int32)) M h)
  · have h := (if_neg c8).symm.trans h
    refine am_aload_n F 1 dX10_bestOf_45 rfl rfl ?_
    refine am_iload_n F 2 dX10_bestOf_46 rfl rfl ?_
    refine am_iload F 6 dX10_bestOf_47 rfl ?_
    obtain ⟨v4, M3, h2, h⟩ := am_bE h
    refine am_callVi F [.int a1, .int a5] lyk_174 (by decide) rfl cw_X10_221 (c_X10_reason l D E z a1 a5 M v4 M3 h2) yn_X10_reason rfl ⟨Nat.le_of_ble_eq_true rfl, Nat.le_of_ble_eq_true rfl⟩ rfl rfl (Nat.le_of_ble_eq_true rfl) ⟨Nat.zero_le _, Nat.zero_le _⟩ dX10_bestOf_49 rfl ?_
    refine am_if_ne F (tgt := 78) dX10_bestOf_52 (by decide) (fun c7 => ?_) (fun c7 => ?_)
    · have h := (if_neg c7).symm.trans h
      refine am_iinc F [(5, .int (a5 + (1 : Int32))), (6, .int as0), (0, .ref (z + 174)), (1, .int a1), (2, .int a2), (3, .int a3), (4, .int a4)] 6 dX10_bestOf_78 (by decide) rfl rfl rfl ?_
      refine am_goto F (tgt := 8) dX10_bestOf_81 (by decide) ?_
      exact am_sub (lv' := [(0, .ref (z + 174)), (1, .int a1), (2, .int a2), (3, .int a3), (4, .int a4), (5, .int (a5 + (1 : Int32)))]) [2, 3, 4, 5, 6, 0] rfl (HR a3 a4 (a5 + (1 : Int32)) M3 h)
    · have h := (if_pos c7).symm.trans h
      refine am_iload_n F 4 dX10_bestOf_55 rfl rfl ?_
      refine am_iconst F (v := (-1 : Int32)) dX10_bestOf_56 (by decide) ?_
      refine am_icmp_eq F (tgt := 69) dX10_bestOf_57 (by decide) (fun c6 => ?_) (fun c6 => ?_)
      · have h := (if_pos c6).symm.trans h
        refine am_iload F 6 dX10_bestOf_69 rfl ?_
        refine am_istore_n F [(3, .int a5), (6, .int as0), (0, .ref (z + 174)), (1, .int a1), (2, .int a2), (4, .int a4), (5, .int a5)] dX10_bestOf_71 rfl (by decide) rfl ?_
        refine am_aload_n F 2 dX10_bestOf_72 rfl rfl ?_
        refine gf_X10_129 F lyk_174 dX10_bestOf_73 ?_
        refine am_istore F [(4, .int (am_g M3 174 16)), (3, .int a5), (6, .int as0), (0, .ref (z + 174)), (1, .int a1), (2, .int a2), (5, .int a5)] dX10_bestOf_76 (by decide) rfl ?_
        refine am_iinc F [(5, .int (a5 + (1 : Int32))), (4, .int (am_g M3 174 16)), (3, .int a5), (6, .int as0), (0, .ref (z + 174)), (1, .int a1), (2, .int a2)] 6 dX10_bestOf_78 (by decide) rfl rfl rfl ?_
        refine am_goto F (tgt := 8) dX10_bestOf_81 (by decide) ?_
        exact am_sub (lv' := [(0, .ref (z + 174)), (1, .int a1), (2, .int a2), (3, .int a5), (4, .int (am_g M3 174 16)), (5, .int (a5 + (1 : Int32)))]) [4, 5, 6, 2, 1, 0] rfl (HR a5 (am_g M3 174 16) (a5 + (1 : Int32)) M3 h)
      · have h := (if_neg c6).symm.trans h
        refine am_aload_n F 1 dX10_bestOf_60 rfl rfl ?_
        refine gf_X10_129 F lyk_174 dX10_bestOf_61 ?_
        refine am_iload F 5 dX10_bestOf_64 rfl ?_
        refine am_icmp_ge F (tgt := 78) dX10_bestOf_66 (by decide) (fun c5 => ?_) (fun c5 => ?_)
        · have h := (if_pos c5).symm.trans h
          refine am_iinc F [(5, .int (a5 + (1 : Int32))), (6, .int as0), (0, .ref (z + 174)), (1, .int a1), (2, .int a2), (3, .int a3), (4, .int a4)] 6 dX10_bestOf_78 (by decide) rfl rfl rfl ?_
          refine am_goto F (tgt := 8) dX10_bestOf_81 (by decide) ?_
          exact am_sub (lv' := [(0, .ref (z + 174)), (1, .int a1), (2, .int a2), (3, .int a3), (4, .int a4), (5, .int (a5 + (1 : Int32)))]) [2, 3, 4, 5, 6, 0] rfl (HR a3 a4 (a5 + (1 : Int32)) M3 h)
        · have h := (if_neg c5).symm.trans h
          refine am_iload F 6 dX10_bestOf_69 rfl ?_
          refine am_istore_n F [(3, .int a5), (6, .int as0), (0, .ref (z + 174)), (1, .int a1), (2, .int a2), (4, .int a4), (5, .int a5)] dX10_bestOf_71 rfl (by decide) rfl ?_
          refine am_aload_n F 2 dX10_bestOf_72 rfl rfl ?_
          refine gf_X10_129 F lyk_174 dX10_bestOf_73 ?_
          refine am_istore F [(4, .int (am_g M3 174 16)), (3, .int a5), (6, .int as0), (0, .ref (z + 174)), (1, .int a1), (2, .int a2), (5, .int a5)] dX10_bestOf_76 (by decide) rfl ?_
          refine am_iinc F [(5, .int (a5 + (1 : Int32))), (4, .int (am_g M3 174 16)), (3, .int a5), (6, .int as0), (0, .ref (z + 174)), (1, .int a1), (2, .int a2)] 6 dX10_bestOf_78 (by decide) rfl rfl rfl ?_
          refine am_goto F (tgt := 8) dX10_bestOf_81 (by decide) ?_
          exact am_sub (lv' := [(0, .ref (z + 174)), (1, .int a1), (2, .int a2), (3, .int a5), (4, .int (am_g M3 174 16)), (5, .int (a5 + (1 : Int32)))]) [4, 5, 6, 2, 1, 0] rfl (HR a5 (am_g M3 174 16) (a5 + (1 : Int32)) M3 h)
def g_X10_bestOf_L8 (a1 : Int32) (a2 : Int32) : Nat → Int32 → Int32 → Int32 → am_M → Option ((Int32) × am_M)
  | 0, _, _, _, _ => none
  | n + 1, a3, a4, a5, M => (am_ci (6 : Int32) 406 (if (am_g M 175 (6 : Int32).toNatClampNeg) ≤ a5 then (some (a3, M)) else (if a2 = (0 : Int32) then (g_X10_bestOf_J38 (g_X10_bestOf_L8 a1 a2 n) a1 a2 a3 a4 a5 (1 : Int32) M) else (am_b (g_X10_isIdle a5 M) (fun v11 M10 => (if v11 = (0 : Int32) then (g_X10_bestOf_J38 (g_X10_bestOf_L8 a1 a2 n) a1 a2 a3 a4 a5 (0 : Int32) M10) else (g_X10_bestOf_J38 (g_X10_bestOf_L8 a1 a2 n) a1 a2 a3 a4 a5 (1 : Int32) M10)))))))
set_option maxHeartbeats 4000000 in
set_option maxRecDepth 100000 in
theorem cl_X10_bestOf_L8 {l : Launch} {p : Program} {e : Env} {s : State} {m : MethodId} {args : Array Value} {below : List Frame} {meth : Method} {c : Code} {Q : State → Prop} {D : va_G} {E : Nat → ClassId} {z : Nat} (F : am_F p s m args meth c cX10_bestOf 7 RX10 D E z) (a1 : Int32) (a2 : Int32) : ∀ (n : Nat) (a3 : Int32) (a4 : Int32) (a5 : Int32) (M : am_M) (x : Int32) (M1 : am_M), g_X10_bestOf_L8 a1 a2 n a3 a4 a5 M = some (x, M1) → (am_W p l e rm_X10_bestOf s m args below meth c Q 7 D E z 0 0 M1 84 [(3, .int x)] []) → am_W p l e rm_X10_bestOf s m args below meth c Q 7 D E z 0 0 M 8 [(0, .ref (z + 174)), (1, .int a1), (2, .int a2), (3, .int a3), (4, .int a4), (5, .int a5)] [] := by
  intro n
  induction n with
  | zero => intro a3 a4 a5 M x M1 h K; cases h
  | succ n ih =>
    intro a3 a4 a5 M x M1 h K
    rw [g_X10_bestOf_L8] at h
    refine am_iload F 5 dX10_bestOf_8 rfl ?_
    refine am_aload_n F 0 dX10_bestOf_10 rfl rfl ?_
    refine gf_X10_7 F lyk_174 dX10_bestOf_11 ?_
    refine am_bipush F (v := (6 : Int32)) dX10_bestOf_14 (by decide) ?_
    obtain ⟨q1, h⟩ := am_ciE h
    refine am_iald F lyk_175 q1 dX10_bestOf_16 ?_
    refine am_icmp_ge F (tgt := 84) dX10_bestOf_17 (by decide) (fun c14 => ?_) (fun c14 => ?_)
    · have h := (if_pos c14).symm.trans h
      cases h
      exact am_sub (lv' := [(3, .int a3)]) [3] rfl (K)
    · have h := (if_neg c14).symm.trans h
      refine am_iload_n F 2 dX10_bestOf_20 rfl rfl ?_
      refine am_if_eq F (tgt := 33) dX10_bestOf_21 (by decide) (fun c13 => ?_) (fun c13 => ?_)
      · have h := (if_pos c13).symm.trans h
        refine am_iconst F (v := (1 : Int32)) dX10_bestOf_33 (by decide) ?_
        refine am_goto F (tgt := 38) dX10_bestOf_34 (by decide) ?_
        exact am_sub (lv' := [(0, .ref (z + 174)), (1, .int a1), (2, .int a2), (3, .int a3), (4, .int a4), (5, .int a5)]) [0, 1, 2, 3, 4, 5] rfl (cj_X10_bestOf_J38 F (g_X10_bestOf_L8 a1 a2 n) a1 a2 a3 a4 a5 (1 : Int32) M _ _ h (fun b3 b4 b5 M2 h2 => ih b3 b4 b5 M2 _ _ h2 K) K)
      · have h := (if_neg c13).symm.trans h
        refine am_aload_n F 0 dX10_bestOf_24 rfl rfl ?_
        refine am_iload F 5 dX10_bestOf_25 rfl ?_
        obtain ⟨v11, M10, h9, h⟩ := am_bE h
        refine am_callVi F [.int a5] lyk_174 (by decide) rfl cw_X10_200 (c_X10_isIdle l D E z a5 M v11 M10 h9) yn_X10_isIdle rfl ⟨Nat.le_of_ble_eq_true rfl, Nat.le_of_ble_eq_true rfl⟩ rfl rfl (Nat.le_of_ble_eq_true rfl) ⟨Nat.zero_le _, Nat.zero_le _⟩ dX10_bestOf_27 rfl ?_
        refine am_if_eq F (tgt := 37) dX10_bestOf_30 (by decide) (fun c12 => ?_) (fun c12 => ?_)
        · have h := (if_pos c12).symm.trans h
          refine am_iconst F (v := (0 : Int32)) dX10_bestOf_37 (by decide) ?_
          exact am_sub (lv' := [(0, .ref (z + 174)), (1, .int a1), (2, .int a2), (3, .int a3), (4, .int a4), (5, .int a5)]) [0, 1, 2, 3, 4, 5] rfl (cj_X10_bestOf_J38 F (g_X10_bestOf_L8 a1 a2 n) a1 a2 a3 a4 a5 (0 : Int32) M10 _ _ h (fun b3 b4 b5 M2 h2 => ih b3 b4 b5 M2 _ _ h2 K) K)
        · have h := (if_neg c12).symm.trans h
          refine am_iconst F (v := (1 : Int32)) dX10_bestOf_33 (by decide) ?_
          refine am_goto F (tgt := 38) dX10_bestOf_34 (by decide) ?_
          exact am_sub (lv' := [(0, .ref (z + 174)), (1, .int a1), (2, .int a2), (3, .int a3), (4, .int a4), (5, .int a5)]) [0, 1, 2, 3, 4, 5] rfl (cj_X10_bestOf_J38 F (g_X10_bestOf_L8 a1 a2 n) a1 a2 a3 a4 a5 (1 : Int32) M10 _ _ h (fun b3 b4 b5 M2 h2 => ih b3 b4 b5 M2 _ _ h2 K) K)
def g_X10_bestOf (a1 : Int32) (a2 : Int32) (M : am_M) : Option (Int32 × am_M) := (am_b (g_X10_bestOf_L8 a1 a2 am_fu (-1 : Int32) (0 : Int32) (0 : Int32) M) (fun x15 M16 => (some (x15, M16))))
set_option maxHeartbeats 4000000 in
set_option maxRecDepth 100000 in
theorem c_X10_bestOf (l : Launch) (D : va_G) (E : Nat → ClassId) (z : Nat) (a1 : Int32) (a2 : Int32) (M : am_M) (r0 : Int32) (M1 : am_M) (h : g_X10_bestOf a1 a2 M = some (r0, M1)) : am_Mi l yX10_bestOf cX10_bestOf 7 (some .int) rm_X10_bestOf D E z [.ref (z + 174), .int a1, .int a2] M r0 M1 := by
  unfold g_X10_bestOf at h
  refine am_of (own := RX10) (by decide +kernel) rfl (by exact Nat.le_of_ble_eq_true rfl) ?_
  intro p e s m args below meth c F hr
  show am_W p l e rm_X10_bestOf s m args below meth c _ 7 D E z 0 0 M 0 [(0, .ref (z + 174)), (1, .int a1), (2, .int a2)] []
  refine am_iconst F (v := (-1 : Int32)) dX10_bestOf_0 (by decide) ?_
  refine am_istore_n F [(3, .int (-1 : Int32)), (0, .ref (z + 174)), (1, .int a1), (2, .int a2)] dX10_bestOf_1 rfl (by decide) rfl ?_
  refine am_iconst F (v := (0 : Int32)) dX10_bestOf_2 (by decide) ?_
  refine am_istore F [(4, .int (0 : Int32)), (3, .int (-1 : Int32)), (0, .ref (z + 174)), (1, .int a1), (2, .int a2)] dX10_bestOf_3 (by decide) rfl ?_
  refine am_iconst F (v := (0 : Int32)) dX10_bestOf_5 (by decide) ?_
  refine am_istore F [(5, .int (0 : Int32)), (4, .int (0 : Int32)), (3, .int (-1 : Int32)), (0, .ref (z + 174)), (1, .int a1), (2, .int a2)] dX10_bestOf_6 (by decide) rfl ?_
  obtain ⟨x15, M16, h17, h⟩ := am_bE h
  refine am_sub (lv' := [(0, .ref (z + 174)), (1, .int a1), (2, .int a2), (3, .int (-1 : Int32)), (4, .int (0 : Int32)), (5, .int (0 : Int32))]) [3, 4, 5, 2, 1, 0] rfl (cl_X10_bestOf_L8 F a1 a2 am_fu (-1 : Int32) (0 : Int32) (0 : Int32) M x15 M16 h17 ?_)
  refine am_iload_n F 0 dX10_bestOf_84 rfl rfl ?_
  exact am_iret F hr h dX10_bestOf_85
/-! AisleSchedulerModel.bestRobot(I)I -/
abbrev rm_X10_bestRobot : Room := { frames := 9, cells := 0, slots := 0, locals := 225 }
theorem yn_X10_bestRobot : am_yn yX10_bestRobot 1 := ⟨⟨by decide +kernel, by decide +kernel⟩, by decide +kernel⟩
def g_X10_bestRobot (a1 : Int32) (M : am_M) : Option (Int32 × am_M) := (am_b (g_X10_isTask a1 (am_s M 174 0 (0 : Int32))) (fun v3 M2 => (if v3 = (0 : Int32) then (am_b (g_X10_fails (1 : Int32) M2) (fun v20 M19 => (some (v20, M19)))) else (am_b (g_X10_isToServe a1 M2) (fun v6 M5 => (if v6 = (0 : Int32) then (am_b (g_X10_fails (2 : Int32) M5) (fun v16 M15 => (some (v16, M15)))) else (am_b (g_X10_bestOf a1 (0 : Int32) M5) (fun v9 M8 => (if v9 = (-1 : Int32) then (am_b (g_X10_fails (3 : Int32) M8) (fun v12 M11 => (some (v12, M11)))) else (some (v9, M8)))))))))))
set_option maxHeartbeats 4000000 in
set_option maxRecDepth 100000 in
theorem c_X10_bestRobot (l : Launch) (D : va_G) (E : Nat → ClassId) (z : Nat) (a1 : Int32) (M : am_M) (r0 : Int32) (M1 : am_M) (h : g_X10_bestRobot a1 M = some (r0, M1)) : am_Mi l yX10_bestRobot cX10_bestRobot 3 (some .int) rm_X10_bestRobot D E z [.ref (z + 174), .int a1] M r0 M1 := by
  unfold g_X10_bestRobot at h
  refine am_of (own := RX10) (by decide +kernel) rfl (by exact Nat.le_of_ble_eq_true rfl) ?_
  intro p e s m args below meth c F hr
  show am_W p l e rm_X10_bestRobot s m args below meth c _ 3 D E z 0 0 M 0 [(0, .ref (z + 174)), (1, .int a1)] []
  refine am_aload_n F 0 dX10_bestRobot_0 rfl rfl ?_
  refine am_iconst F (v := (0 : Int32)) dX10_bestRobot_1 (by decide) ?_
  refine pf_X10_51 F lyk_174 dX10_bestRobot_2 ?_
  refine am_aload_n F 0 dX10_bestRobot_5 rfl rfl ?_
  refine am_iload_n F 1 dX10_bestRobot_6 rfl rfl ?_
  obtain ⟨v3, M2, h1, h⟩ := am_bE h
  refine am_callVi F [.int a1] lyk_174 (by decide) rfl cw_X10_215 (c_X10_isTask l D E z a1 (am_s M 174 0 (0 : Int32)) v3 M2 h1) yn_X10_isTask rfl ⟨Nat.le_of_ble_eq_true rfl, Nat.le_of_ble_eq_true rfl⟩ rfl rfl (Nat.le_of_ble_eq_true rfl) ⟨Nat.zero_le _, Nat.zero_le _⟩ dX10_bestRobot_7 rfl ?_
  refine am_if_ne F (tgt := 19) dX10_bestRobot_10 (by decide) (fun c21 => ?_) (fun c21 => ?_)
  · have h := (if_neg c21).symm.trans h
    refine am_aload_n F 0 dX10_bestRobot_19 rfl rfl ?_
    refine am_iload_n F 1 dX10_bestRobot_20 rfl rfl ?_
    obtain ⟨v6, M5, h4, h⟩ := am_bE h
    refine am_callVi F [.int a1] lyk_174 (by decide) rfl cw_X10_218 (c_X10_isToServe l D E z a1 M2 v6 M5 h4) yn_X10_isToServe rfl ⟨Nat.le_of_ble_eq_true rfl, Nat.le_of_ble_eq_true rfl⟩ rfl rfl (Nat.le_of_ble_eq_true rfl) ⟨Nat.zero_le _, Nat.zero_le _⟩ dX10_bestRobot_21 rfl ?_
    refine am_if_ne F (tgt := 33) dX10_bestRobot_24 (by decide) (fun c17 => ?_) (fun c17 => ?_)
    · have h := (if_neg c17).symm.trans h
      refine am_aload_n F 0 dX10_bestRobot_33 rfl rfl ?_
      refine am_iload_n F 1 dX10_bestRobot_34 rfl rfl ?_
      refine am_iconst F (v := (0 : Int32)) dX10_bestRobot_35 (by decide) ?_
      obtain ⟨v9, M8, h7, h⟩ := am_bE h
      refine am_callVi F [.int a1, .int (0 : Int32)] lyk_174 (by decide) rfl cw_X10_228 (c_X10_bestOf l D E z a1 (0 : Int32) M5 v9 M8 h7) yn_X10_bestOf rfl ⟨Nat.le_of_ble_eq_true rfl, Nat.le_of_ble_eq_true rfl⟩ rfl rfl (Nat.le_of_ble_eq_true rfl) ⟨Nat.zero_le _, Nat.zero_le _⟩ dX10_bestRobot_36 rfl ?_
      refine am_istore_n F [(2, .int v9), (0, .ref (z + 174)), (1, .int a1)] dX10_bestRobot_39 rfl (by decide) rfl ?_
      refine am_iload_n F 0 dX10_bestRobot_40 rfl rfl ?_
      refine am_iconst F (v := (-1 : Int32)) dX10_bestRobot_41 (by decide) ?_
      refine am_icmp_ne F (tgt := 53) dX10_bestRobot_42 (by decide) (fun c13 => ?_) (fun c13 => ?_)
      · have h := (if_neg c13).symm.trans h
        refine am_iload_n F 0 dX10_bestRobot_53 rfl rfl ?_
        exact am_iret F hr h dX10_bestRobot_54
      · have h := (if_pos c13).symm.trans h
        refine am_aload_n F 1 dX10_bestRobot_45 rfl rfl ?_
        refine am_iconst F (v := (3 : Int32)) dX10_bestRobot_46 (by decide) ?_
        obtain ⟨v12, M11, h10, h⟩ := am_bE h
        refine am_callVi F [.int (3 : Int32)] lyk_174 (by decide) rfl cw_X10_164 (c_X10_fails l D E z (3 : Int32) M8 v12 M11 h10) yn_X10_fails rfl ⟨Nat.le_of_ble_eq_true rfl, Nat.le_of_ble_eq_true rfl⟩ rfl rfl (Nat.le_of_ble_eq_true rfl) ⟨Nat.zero_le _, Nat.zero_le _⟩ dX10_bestRobot_47 rfl ?_
        refine am_goto F (tgt := 54) dX10_bestRobot_50 (by decide) ?_
        exact am_iret F hr h dX10_bestRobot_54
    · have h := (if_pos c17).symm.trans h
      refine am_aload_n F 0 dX10_bestRobot_27 rfl rfl ?_
      refine am_iconst F (v := (2 : Int32)) dX10_bestRobot_28 (by decide) ?_
      obtain ⟨v16, M15, h14, h⟩ := am_bE h
      refine am_callVi F [.int (2 : Int32)] lyk_174 (by decide) rfl cw_X10_164 (c_X10_fails l D E z (2 : Int32) M5 v16 M15 h14) yn_X10_fails rfl ⟨Nat.le_of_ble_eq_true rfl, Nat.le_of_ble_eq_true rfl⟩ rfl rfl (Nat.le_of_ble_eq_true rfl) ⟨Nat.zero_le _, Nat.zero_le _⟩ dX10_bestRobot_29 rfl ?_
      exact am_iret F hr h dX10_bestRobot_32
  · have h := (if_pos c21).symm.trans h
    refine am_aload_n F 0 dX10_bestRobot_13 rfl rfl ?_
    refine am_iconst F (v := (1 : Int32)) dX10_bestRobot_14 (by decide) ?_
    obtain ⟨v20, M19, h18, h⟩ := am_bE h
    refine am_callVi F [.int (1 : Int32)] lyk_174 (by decide) rfl cw_X10_164 (c_X10_fails l D E z (1 : Int32) M2 v20 M19 h18) yn_X10_fails rfl ⟨Nat.le_of_ble_eq_true rfl, Nat.le_of_ble_eq_true rfl⟩ rfl rfl (Nat.le_of_ble_eq_true rfl) ⟨Nat.zero_le _, Nat.zero_le _⟩ dX10_bestRobot_15 rfl ?_
    exact am_iret F hr h dX10_bestRobot_18
/-! AisleSchedulerModel.task(II)I -/
abbrev rm_X10_task : Room := { frames := 3, cells := 0, slots := 0, locals := 67 }
theorem yn_X10_task : am_yn yX10_task 2 := ⟨⟨by decide +kernel, by decide +kernel⟩, by decide +kernel⟩
def g_X10_task (a1 : Int32) (a2 : Int32) (M : am_M) : Option (Int32 × am_M) := (am_b (g_X10_isTask a1 (am_s M 174 0 (0 : Int32))) (fun v3 M2 => (if v3 = (0 : Int32) then (am_b (g_X10_fails (1 : Int32) M2) (fun v45 M44 => (some (v45, M44)))) else (if a2 = (0 : Int32) then (am_b (g_X10_item a1 (4 : Int32) M2) (fun v7 M6 => (some (v7, M6)))) else (if a2 = (1 : Int32) then (am_b (g_X10_item a1 (4 : Int32) M2) (fun v11 M10 => (if v11 = (3 : Int32) then (am_b (g_X10_item a1 (5 : Int32) M10) (fun v14 M13 => (some (v14, M13)))) else (some ((0 : Int32), M10))))) else (if a2 = (2 : Int32) then (am_b (g_X10_item a1 (6 : Int32) M2) (fun v19 M18 => (some (v19, M18)))) else (if a2 = (3 : Int32) then (am_b (g_X10_item a1 (7 : Int32) M2) (fun v23 M22 => (some (v23, M22)))) else (if a2 = (4 : Int32) then (am_b (g_X10_item a1 (0 : Int32) M2) (fun v27 M26 => (some (v27, M26)))) else (if a2 = (5 : Int32) then (am_b (g_X10_item a1 (1 : Int32) M2) (fun v31 M30 => (some (v31, M30)))) else (if a2 = (6 : Int32) then (am_b (g_X10_item a1 (2 : Int32) M2) (fun v35 M34 => (some (v35, M34)))) else (if a2 = (7 : Int32) then (am_b (g_X10_item a1 (3 : Int32) M2) (fun v39 M38 => (some (v39, M38)))) else (am_b (g_X10_fails (2 : Int32) M2) (fun v42 M41 => (some (v42, M41)))))))))))))))
set_option maxHeartbeats 4000000 in
set_option maxRecDepth 100000 in
theorem c_X10_task (l : Launch) (D : va_G) (E : Nat → ClassId) (z : Nat) (a1 : Int32) (a2 : Int32) (M : am_M) (r0 : Int32) (M1 : am_M) (h : g_X10_task a1 a2 M = some (r0, M1)) : am_Mi l yX10_task cX10_task 3 (some .int) rm_X10_task D E z [.ref (z + 174), .int a1, .int a2] M r0 M1 := by
  unfold g_X10_task at h
  refine am_of (own := RX10) (by decide +kernel) rfl (by exact Nat.le_of_ble_eq_true rfl) ?_
  intro p e s m args below meth c F hr
  show am_W p l e rm_X10_task s m args below meth c _ 3 D E z 0 0 M 0 [(0, .ref (z + 174)), (1, .int a1), (2, .int a2)] []
  refine am_aload_n F 0 dX10_task_0 rfl rfl ?_
  refine am_iconst F (v := (0 : Int32)) dX10_task_1 (by decide) ?_
  refine pf_X10_51 F lyk_174 dX10_task_2 ?_
  refine am_aload_n F 0 dX10_task_5 rfl rfl ?_
  refine am_iload_n F 1 dX10_task_6 rfl rfl ?_
  obtain ⟨v3, M2, h1, h⟩ := am_bE h
  refine am_callVi F [.int a1] lyk_174 (by decide) rfl cw_X10_215 (c_X10_isTask l D E z a1 (am_s M 174 0 (0 : Int32)) v3 M2 h1) yn_X10_isTask rfl ⟨Nat.le_of_ble_eq_true rfl, Nat.le_of_ble_eq_true rfl⟩ rfl rfl (Nat.le_of_ble_eq_true rfl) ⟨Nat.zero_le _, Nat.zero_le _⟩ dX10_task_7 rfl ?_
  refine am_if_ne F (tgt := 19) dX10_task_10 (by decide) (fun c46 => ?_) (fun c46 => ?_)
  · have h := (if_neg c46).symm.trans h
    refine am_iload_n F 2 dX10_task_19 rfl rfl ?_
    by_cases c4 : a2 = (0 : Int32)
    · have h := (if_pos c4).symm.trans h
      refine am_tabIn F 0 (tgt := 68) dX10_task_20 (by rw [c4]; decide) rfl rfl (by decide) ?_
      refine am_aload_n F 0 dX10_task_68 rfl rfl ?_
      refine am_iload_n F 1 dX10_task_69 rfl rfl ?_
      refine am_iconst F (v := (4 : Int32)) dX10_task_70 (by decide) ?_
      obtain ⟨v7, M6, h5, h⟩ := am_bE h
      refine am_callVi F [.int a1, .int (4 : Int32)] lyk_174 (by decide) rfl cw_X10_209 (c_X10_item l D E z a1 (4 : Int32) M2 v7 M6 h5) yn_X10_item rfl ⟨Nat.le_of_ble_eq_true rfl, Nat.le_of_ble_eq_true rfl⟩ rfl rfl (Nat.le_of_ble_eq_true rfl) ⟨Nat.zero_le _, Nat.zero_le _⟩ dX10_task_71 rfl ?_
      exact am_iret F hr h dX10_task_74
    · have h := (if_neg c4).symm.trans h
      by_cases c8 : a2 = (1 : Int32)
      · have h := (if_pos c8).symm.trans h
        refine am_tabIn F 1 (tgt := 75) dX10_task_20 (by rw [c8]; decide) rfl rfl (by decide) ?_
        refine am_aload_n F 0 dX10_task_75 rfl rfl ?_
        refine am_iload_n F 1 dX10_task_76 rfl rfl ?_
        refine am_iconst F (v := (4 : Int32)) dX10_task_77 (by decide) ?_
        obtain ⟨v11, M10, h9, h⟩ := am_bE h
        refine am_callVi F [.int a1, .int (4 : Int32)] lyk_174 (by decide) rfl cw_X10_209 (c_X10_item l D E z a1 (4 : Int32) M2 v11 M10 h9) yn_X10_item rfl ⟨Nat.le_of_ble_eq_true rfl, Nat.le_of_ble_eq_true rfl⟩ rfl rfl (Nat.le_of_ble_eq_true rfl) ⟨Nat.zero_le _, Nat.zero_le _⟩ dX10_task_78 rfl ?_
        refine am_iconst F (v := (3 : Int32)) dX10_task_81 (by decide) ?_
        refine am_icmp_ne F (tgt := 94) dX10_task_82 (by decide) (fun c15 => ?_) (fun c15 => ?_)
        · have h := (if_neg c15).symm.trans h
          refine am_iconst F (v := (0 : Int32)) dX10_task_94 (by decide) ?_
          exact am_iret F hr h dX10_task_95
        · have h := (if_pos c15).symm.trans h
          refine am_aload_n F 0 dX10_task_85 rfl rfl ?_
          refine am_iload_n F 1 dX10_task_86 rfl rfl ?_
          refine am_iconst F (v := (5 : Int32)) dX10_task_87 (by decide) ?_
          obtain ⟨v14, M13, h12, h⟩ := am_bE h
          refine am_callVi F [.int a1, .int (5 : Int32)] lyk_174 (by decide) rfl cw_X10_209 (c_X10_item l D E z a1 (5 : Int32) M10 v14 M13 h12) yn_X10_item rfl ⟨Nat.le_of_ble_eq_true rfl, Nat.le_of_ble_eq_true rfl⟩ rfl rfl (Nat.le_of_ble_eq_true rfl) ⟨Nat.zero_le _, Nat.zero_le _⟩ dX10_task_88 rfl ?_
          refine am_goto F (tgt := 95) dX10_task_91 (by decide) ?_
          exact am_iret F hr h dX10_task_95
      · have h := (if_neg c8).symm.trans h
        by_cases c16 : a2 = (2 : Int32)
        · have h := (if_pos c16).symm.trans h
          refine am_tabIn F 2 (tgt := 96) dX10_task_20 (by rw [c16]; decide) rfl rfl (by decide) ?_
          refine am_aload_n F 0 dX10_task_96 rfl rfl ?_
          refine am_iload_n F 1 dX10_task_97 rfl rfl ?_
          refine am_bipush F (v := (6 : Int32)) dX10_task_98 (by decide) ?_
          obtain ⟨v19, M18, h17, h⟩ := am_bE h
          refine am_callVi F [.int a1, .int (6 : Int32)] lyk_174 (by decide) rfl cw_X10_209 (c_X10_item l D E z a1 (6 : Int32) M2 v19 M18 h17) yn_X10_item rfl ⟨Nat.le_of_ble_eq_true rfl, Nat.le_of_ble_eq_true rfl⟩ rfl rfl (Nat.le_of_ble_eq_true rfl) ⟨Nat.zero_le _, Nat.zero_le _⟩ dX10_task_100 rfl ?_
          exact am_iret F hr h dX10_task_103
        · have h := (if_neg c16).symm.trans h
          by_cases c20 : a2 = (3 : Int32)
          · have h := (if_pos c20).symm.trans h
            refine am_tabIn F 3 (tgt := 104) dX10_task_20 (by rw [c20]; decide) rfl rfl (by decide) ?_
            refine am_aload_n F 0 dX10_task_104 rfl rfl ?_
            refine am_iload_n F 1 dX10_task_105 rfl rfl ?_
            refine am_bipush F (v := (7 : Int32)) dX10_task_106 (by decide) ?_
            obtain ⟨v23, M22, h21, h⟩ := am_bE h
            refine am_callVi F [.int a1, .int (7 : Int32)] lyk_174 (by decide) rfl cw_X10_209 (c_X10_item l D E z a1 (7 : Int32) M2 v23 M22 h21) yn_X10_item rfl ⟨Nat.le_of_ble_eq_true rfl, Nat.le_of_ble_eq_true rfl⟩ rfl rfl (Nat.le_of_ble_eq_true rfl) ⟨Nat.zero_le _, Nat.zero_le _⟩ dX10_task_108 rfl ?_
            exact am_iret F hr h dX10_task_111
          · have h := (if_neg c20).symm.trans h
            by_cases c24 : a2 = (4 : Int32)
            · have h := (if_pos c24).symm.trans h
              refine am_tabIn F 4 (tgt := 112) dX10_task_20 (by rw [c24]; decide) rfl rfl (by decide) ?_
              refine am_aload_n F 0 dX10_task_112 rfl rfl ?_
              refine am_iload_n F 1 dX10_task_113 rfl rfl ?_
              refine am_iconst F (v := (0 : Int32)) dX10_task_114 (by decide) ?_
              obtain ⟨v27, M26, h25, h⟩ := am_bE h
              refine am_callVi F [.int a1, .int (0 : Int32)] lyk_174 (by decide) rfl cw_X10_209 (c_X10_item l D E z a1 (0 : Int32) M2 v27 M26 h25) yn_X10_item rfl ⟨Nat.le_of_ble_eq_true rfl, Nat.le_of_ble_eq_true rfl⟩ rfl rfl (Nat.le_of_ble_eq_true rfl) ⟨Nat.zero_le _, Nat.zero_le _⟩ dX10_task_115 rfl ?_
              exact am_iret F hr h dX10_task_118
            · have h := (if_neg c24).symm.trans h
              by_cases c28 : a2 = (5 : Int32)
              · have h := (if_pos c28).symm.trans h
                refine am_tabIn F 5 (tgt := 119) dX10_task_20 (by rw [c28]; decide) rfl rfl (by decide) ?_
                refine am_aload_n F 0 dX10_task_119 rfl rfl ?_
                refine am_iload_n F 1 dX10_task_120 rfl rfl ?_
                refine am_iconst F (v := (1 : Int32)) dX10_task_121 (by decide) ?_
                obtain ⟨v31, M30, h29, h⟩ := am_bE h
                refine am_callVi F [.int a1, .int (1 : Int32)] lyk_174 (by decide) rfl cw_X10_209 (c_X10_item l D E z a1 (1 : Int32) M2 v31 M30 h29) yn_X10_item rfl ⟨Nat.le_of_ble_eq_true rfl, Nat.le_of_ble_eq_true rfl⟩ rfl rfl (Nat.le_of_ble_eq_true rfl) ⟨Nat.zero_le _, Nat.zero_le _⟩ dX10_task_122 rfl ?_
                exact am_iret F hr h dX10_task_125
              · have h := (if_neg c28).symm.trans h
                by_cases c32 : a2 = (6 : Int32)
                · have h := (if_pos c32).symm.trans h
                  refine am_tabIn F 6 (tgt := 126) dX10_task_20 (by rw [c32]; decide) rfl rfl (by decide) ?_
                  refine am_aload_n F 0 dX10_task_126 rfl rfl ?_
                  refine am_iload_n F 1 dX10_task_127 rfl rfl ?_
                  refine am_iconst F (v := (2 : Int32)) dX10_task_128 (by decide) ?_
                  obtain ⟨v35, M34, h33, h⟩ := am_bE h
                  refine am_callVi F [.int a1, .int (2 : Int32)] lyk_174 (by decide) rfl cw_X10_209 (c_X10_item l D E z a1 (2 : Int32) M2 v35 M34 h33) yn_X10_item rfl ⟨Nat.le_of_ble_eq_true rfl, Nat.le_of_ble_eq_true rfl⟩ rfl rfl (Nat.le_of_ble_eq_true rfl) ⟨Nat.zero_le _, Nat.zero_le _⟩ dX10_task_129 rfl ?_
                  exact am_iret F hr h dX10_task_132
                · have h := (if_neg c32).symm.trans h
                  by_cases c36 : a2 = (7 : Int32)
                  · have h := (if_pos c36).symm.trans h
                    refine am_tabIn F 7 (tgt := 133) dX10_task_20 (by rw [c36]; decide) rfl rfl (by decide) ?_
                    refine am_aload_n F 0 dX10_task_133 rfl rfl ?_
                    refine am_iload_n F 1 dX10_task_134 rfl rfl ?_
                    refine am_iconst F (v := (3 : Int32)) dX10_task_135 (by decide) ?_
                    obtain ⟨v39, M38, h37, h⟩ := am_bE h
                    refine am_callVi F [.int a1, .int (3 : Int32)] lyk_174 (by decide) rfl cw_X10_209 (c_X10_item l D E z a1 (3 : Int32) M2 v39 M38 h37) yn_X10_item rfl ⟨Nat.le_of_ble_eq_true rfl, Nat.le_of_ble_eq_true rfl⟩ rfl rfl (Nat.le_of_ble_eq_true rfl) ⟨Nat.zero_le _, Nat.zero_le _⟩ dX10_task_136 rfl ?_
                    exact am_iret F hr h dX10_task_139
                  · have h := (if_neg c36).symm.trans h
                    have hsw := am_sw (x := a2) (lo := 0) (n := 8) (by decide) (by decide) (fun j hj => match j, hj with | 0, _ => c4 | 1, _ => c8 | 2, _ => c16 | 3, _ => c20 | 4, _ => c24 | 5, _ => c28 | 6, _ => c32 | 7, _ => c36)
                    refine am_tabOut F (tgt := 140) dX10_task_20 (hsw.imp_right (fun h9 => by omega)) (by decide) ?_
                    refine am_aload_n F 0 dX10_task_140 rfl rfl ?_
                    refine am_iconst F (v := (2 : Int32)) dX10_task_141 (by decide) ?_
                    obtain ⟨v42, M41, h40, h⟩ := am_bE h
                    refine am_callVi F [.int (2 : Int32)] lyk_174 (by decide) rfl cw_X10_164 (c_X10_fails l D E z (2 : Int32) M2 v42 M41 h40) yn_X10_fails rfl ⟨Nat.le_of_ble_eq_true rfl, Nat.le_of_ble_eq_true rfl⟩ rfl rfl (Nat.le_of_ble_eq_true rfl) ⟨Nat.zero_le _, Nat.zero_le _⟩ dX10_task_142 rfl ?_
                    exact am_iret F hr h dX10_task_145
  · have h := (if_pos c46).symm.trans h
    refine am_aload_n F 0 dX10_task_13 rfl rfl ?_
    refine am_iconst F (v := (1 : Int32)) dX10_task_14 (by decide) ?_
    obtain ⟨v45, M44, h43, h⟩ := am_bE h
    refine am_callVi F [.int (1 : Int32)] lyk_174 (by decide) rfl cw_X10_164 (c_X10_fails l D E z (1 : Int32) M2 v45 M44 h43) yn_X10_fails rfl ⟨Nat.le_of_ble_eq_true rfl, Nat.le_of_ble_eq_true rfl⟩ rfl rfl (Nat.le_of_ble_eq_true rfl) ⟨Nat.zero_le _, Nat.zero_le _⟩ dX10_task_15 rfl ?_
    exact am_iret F hr h dX10_task_18
/-! AisleSchedulerModel.assignAll()I -/
abbrev rm_X10_assignAll : Room := { frames := 9, cells := 0, slots := 0, locals := 225 }
theorem yn_X10_assignAll : am_yn yX10_assignAll 0 := ⟨⟨by decide +kernel, by decide +kernel⟩, by decide +kernel⟩
def g_X10_assignAll_L9  : Nat → Int32 → Int32 → am_M → Option ((Int32) × am_M)
  | 0, _, _, _ => none
  | n + 1, a1, a2, M => (am_ci (7 : Int32) 406 (if (am_g M 175 (7 : Int32).toNatClampNeg) ≤ a2 then (some (a1, M)) else (am_b (g_X10_item a2 (4 : Int32) M) (fun v4 M3 => (if v4 = (0 : Int32) then (g_X10_assignAll_L9  n (a1 ||| ((1 : Int32) <<< (a2 &&& 31))) (a2 + (1 : Int32)) M3) else (g_X10_assignAll_L9  n (a1 ||| (0 : Int32)) (a2 + (1 : Int32)) M3))))))
set_option maxHeartbeats 4000000 in
set_option maxRecDepth 100000 in
theorem cl_X10_assignAll_L9 {l : Launch} {p : Program} {e : Env} {s : State} {m : MethodId} {args : Array Value} {below : List Frame} {meth : Method} {c : Code} {Q : State → Prop} {D : va_G} {E : Nat → ClassId} {z : Nat} (F : am_F p s m args meth c cX10_assignAll 5 RX10 D E z)  : ∀ (n : Nat) (a1 : Int32) (a2 : Int32) (M : am_M) (x : Int32) (M1 : am_M), g_X10_assignAll_L9  n a1 a2 M = some (x, M1) → (am_W p l e rm_X10_assignAll s m args below meth c Q 5 D E z 0 0 M1 45 [(0, .ref (z + 174)), (1, .int x)] []) → am_W p l e rm_X10_assignAll s m args below meth c Q 5 D E z 0 0 M 9 [(0, .ref (z + 174)), (1, .int a1), (2, .int a2)] [] := by
  intro n
  induction n with
  | zero => intro a1 a2 M x M1 h K; cases h
  | succ n ih =>
    intro a1 a2 M x M1 h K
    rw [g_X10_assignAll_L9] at h
    refine am_iload_n F 2 dX10_assignAll_9 rfl rfl ?_
    refine am_aload_n F 0 dX10_assignAll_10 rfl rfl ?_
    refine gf_X10_7 F lyk_174 dX10_assignAll_11 ?_
    refine am_bipush F (v := (7 : Int32)) dX10_assignAll_14 (by decide) ?_
    obtain ⟨q1, h⟩ := am_ciE h
    refine am_iald F lyk_175 q1 dX10_assignAll_16 ?_
    refine am_icmp_ge F (tgt := 45) dX10_assignAll_17 (by decide) (fun c6 => ?_) (fun c6 => ?_)
    · have h := (if_pos c6).symm.trans h
      cases h
      exact am_sub (lv' := [(0, .ref (z + 174)), (1, .int a1)]) [0, 1] rfl (K)
    · have h := (if_neg c6).symm.trans h
      refine am_iload_n F 1 dX10_assignAll_20 rfl rfl ?_
      refine am_aload_n F 0 dX10_assignAll_21 rfl rfl ?_
      refine am_iload_n F 2 dX10_assignAll_22 rfl rfl ?_
      refine am_iconst F (v := (4 : Int32)) dX10_assignAll_23 (by decide) ?_
      obtain ⟨v4, M3, h2, h⟩ := am_bE h
      refine am_callVi F [.int a2, .int (4 : Int32)] lyk_174 (by decide) rfl cw_X10_209 (c_X10_item l D E z a2 (4 : Int32) M v4 M3 h2) yn_X10_item rfl ⟨Nat.le_of_ble_eq_true rfl, Nat.le_of_ble_eq_true rfl⟩ rfl rfl (Nat.le_of_ble_eq_true rfl) ⟨Nat.zero_le _, Nat.zero_le _⟩ dX10_assignAll_24 rfl ?_
      refine am_if_ne F (tgt := 36) dX10_assignAll_27 (by decide) (fun c5 => ?_) (fun c5 => ?_)
      · have h := (if_neg c5).symm.trans h
        refine am_iconst F (v := (0 : Int32)) dX10_assignAll_36 (by decide) ?_
        refine am_ior F dX10_assignAll_37 ?_
        refine am_istore_n F [(1, .int (a1 ||| (0 : Int32))), (0, .ref (z + 174)), (2, .int a2)] dX10_assignAll_38 rfl (by decide) rfl ?_
        refine am_iinc F [(2, .int (a2 + (1 : Int32))), (1, .int (a1 ||| (0 : Int32))), (0, .ref (z + 174))] 2 dX10_assignAll_39 (by decide) rfl rfl rfl ?_
        refine am_goto F (tgt := 9) dX10_assignAll_42 (by decide) ?_
        exact am_sub (lv' := [(0, .ref (z + 174)), (1, .int (a1 ||| (0 : Int32))), (2, .int (a2 + (1 : Int32)))]) [2, 1, 0] rfl (ih (a1 ||| (0 : Int32)) (a2 + (1 : Int32)) M3 _ _ h K)
      · have h := (if_pos c5).symm.trans h
        refine am_iconst F (v := (1 : Int32)) dX10_assignAll_30 (by decide) ?_
        refine am_iload_n F 2 dX10_assignAll_31 rfl rfl ?_
        refine am_ishl F dX10_assignAll_32 ?_
        refine am_goto F (tgt := 37) dX10_assignAll_33 (by decide) ?_
        refine am_ior F dX10_assignAll_37 ?_
        refine am_istore_n F [(1, .int (a1 ||| ((1 : Int32) <<< (a2 &&& 31)))), (0, .ref (z + 174)), (2, .int a2)] dX10_assignAll_38 rfl (by decide) rfl ?_
        refine am_iinc F [(2, .int (a2 + (1 : Int32))), (1, .int (a1 ||| ((1 : Int32) <<< (a2 &&& 31)))), (0, .ref (z + 174))] 2 dX10_assignAll_39 (by decide) rfl rfl rfl ?_
        refine am_goto F (tgt := 9) dX10_assignAll_42 (by decide) ?_
        exact am_sub (lv' := [(0, .ref (z + 174)), (1, .int (a1 ||| ((1 : Int32) <<< (a2 &&& 31)))), (2, .int (a2 + (1 : Int32)))]) [2, 1, 0] rfl (ih (a1 ||| ((1 : Int32) <<< (a2 &&& 31))) (a2 + (1 : Int32)) M3 _ _ h K)
def g_X10_assignAll_L56 (a1 : Int32) (a2 : Int32) : Nat → Int32 → Int32 → am_M → Option ((Int32) × am_M)
  | 0, _, _, _ => none
  | n + 1, a3, a4, M => (am_ci (7 : Int32) 406 (if (am_g M 175 (7 : Int32).toNatClampNeg) ≤ a4 then (some (a3, M)) else (if ((a1 >>> (a4 &&& 31)) &&& (1 : Int32)) = (1 : Int32) then (if a3 = (-1 : Int32) then (g_X10_assignAll_L56 a1 a2 n a4 (a4 + (1 : Int32)) M) else (am_b (g_X10_item a4 (3 : Int32) M) (fun v13 M12 => (am_b (g_X10_item a3 (3 : Int32) M12) (fun v16 M15 => (if v16 ≤ v13 then (g_X10_assignAll_L56 a1 a2 n a3 (a4 + (1 : Int32)) M15) else (g_X10_assignAll_L56 a1 a2 n a4 (a4 + (1 : Int32)) M15))))))) else (g_X10_assignAll_L56 a1 a2 n a3 (a4 + (1 : Int32)) M))))
set_option maxHeartbeats 4000000 in
set_option maxRecDepth 100000 in
theorem cl_X10_assignAll_L56 {l : Launch} {p : Program} {e : Env} {s : State} {m : MethodId} {args : Array Value} {below : List Frame} {meth : Method} {c : Code} {Q : State → Prop} {D : va_G} {E : Nat → ClassId} {z : Nat} (F : am_F p s m args meth c cX10_assignAll 5 RX10 D E z) (a1 : Int32) (a2 : Int32) : ∀ (n : Nat) (a3 : Int32) (a4 : Int32) (M : am_M) (x : Int32) (M1 : am_M), g_X10_assignAll_L56 a1 a2 n a3 a4 M = some (x, M1) → (am_W p l e rm_X10_assignAll s m args below meth c Q 5 D E z 0 0 M1 108 [(0, .ref (z + 174)), (1, .int a1), (2, .int a2), (3, .int x)] []) → am_W p l e rm_X10_assignAll s m args below meth c Q 5 D E z 0 0 M 56 [(0, .ref (z + 174)), (1, .int a1), (2, .int a2), (3, .int a3), (4, .int a4)] [] := by
  intro n
  induction n with
  | zero => intro a3 a4 M x M1 h K; cases h
  | succ n ih =>
    intro a3 a4 M x M1 h K
    rw [g_X10_assignAll_L56] at h
    refine am_iload F 4 dX10_assignAll_56 rfl ?_
    refine am_aload_n F 0 dX10_assignAll_58 rfl rfl ?_
    refine gf_X10_7 F lyk_174 dX10_assignAll_59 ?_
    refine am_bipush F (v := (7 : Int32)) dX10_assignAll_62 (by decide) ?_
    obtain ⟨q10, h⟩ := am_ciE h
    refine am_iald F lyk_175 q10 dX10_assignAll_64 ?_
    refine am_icmp_ge F (tgt := 108) dX10_assignAll_65 (by decide) (fun c20 => ?_) (fun c20 => ?_)
    · have h := (if_pos c20).symm.trans h
      cases h
      exact am_sub (lv' := [(0, .ref (z + 174)), (1, .int a1), (2, .int a2), (3, .int a3)]) [0, 1, 2, 3] rfl (K)
    · have h := (if_neg c20).symm.trans h
      refine am_iload_n F 1 dX10_assignAll_68 rfl rfl ?_
      refine am_iload F 4 dX10_assignAll_69 rfl ?_
      refine am_ishr F dX10_assignAll_71 ?_
      refine am_iconst F (v := (1 : Int32)) dX10_assignAll_72 (by decide) ?_
      refine am_iand F dX10_assignAll_73 ?_
      refine am_iconst F (v := (1 : Int32)) dX10_assignAll_74 (by decide) ?_
      refine am_icmp_ne F (tgt := 102) dX10_assignAll_75 (by decide) (fun c19 => ?_) (fun c19 => ?_)
      · have h := (if_neg c19).symm.trans h
        refine am_iinc F [(4, .int (a4 + (1 : Int32))), (0, .ref (z + 174)), (1, .int a1), (2, .int a2), (3, .int a3)] 4 dX10_assignAll_102 (by decide) rfl rfl rfl ?_
        refine am_goto F (tgt := 56) dX10_assignAll_105 (by decide) ?_
        exact am_sub (lv' := [(0, .ref (z + 174)), (1, .int a1), (2, .int a2), (3, .int a3), (4, .int (a4 + (1 : Int32)))]) [1, 2, 3, 4, 0] rfl (ih a3 (a4 + (1 : Int32)) M _ _ h K)
      · have h := (if_pos c19).symm.trans h
        refine am_iload_n F 3 dX10_assignAll_78 rfl rfl ?_
        refine am_iconst F (v := (-1 : Int32)) dX10_assignAll_79 (by decide) ?_
        refine am_icmp_eq F (tgt := 99) dX10_assignAll_80 (by decide) (fun c18 => ?_) (fun c18 => ?_)
        · have h := (if_pos c18).symm.trans h
          refine am_iload F 4 dX10_assignAll_99 rfl ?_
          refine am_istore_n F [(3, .int a4), (0, .ref (z + 174)), (1, .int a1), (2, .int a2), (4, .int a4)] dX10_assignAll_101 rfl (by decide) rfl ?_
          refine am_iinc F [(4, .int (a4 + (1 : Int32))), (3, .int a4), (0, .ref (z + 174)), (1, .int a1), (2, .int a2)] 4 dX10_assignAll_102 (by decide) rfl rfl rfl ?_
          refine am_goto F (tgt := 56) dX10_assignAll_105 (by decide) ?_
          exact am_sub (lv' := [(0, .ref (z + 174)), (1, .int a1), (2, .int a2), (3, .int a4), (4, .int (a4 + (1 : Int32)))]) [2, 3, 4, 1, 0] rfl (ih a4 (a4 + (1 : Int32)) M _ _ h K)
        · have h := (if_neg c18).symm.trans h
          refine am_aload_n F 0 dX10_assignAll_83 rfl rfl ?_
          refine am_iload F 4 dX10_assignAll_84 rfl ?_
          refine am_iconst F (v := (3 : Int32)) dX10_assignAll_86 (by decide) ?_
          obtain ⟨v13, M12, h11, h⟩ := am_bE h
          refine am_callVi F [.int a4, .int (3 : Int32)] lyk_174 (by decide) rfl cw_X10_209 (c_X10_item l D E z a4 (3 : Int32) M v13 M12 h11) yn_X10_item rfl ⟨Nat.le_of_ble_eq_true rfl, Nat.le_of_ble_eq_true rfl⟩ rfl rfl (Nat.le_of_ble_eq_true rfl) ⟨Nat.zero_le _, Nat.zero_le _⟩ dX10_assignAll_87 rfl ?_
          refine am_aload_n F 0 dX10_assignAll_90 rfl rfl ?_
          refine am_iload_n F 3 dX10_assignAll_91 rfl rfl ?_
          refine am_iconst F (v := (3 : Int32)) dX10_assignAll_92 (by decide) ?_
          obtain ⟨v16, M15, h14, h⟩ := am_bE h
          refine am_callVi F [.int a3, .int (3 : Int32)] lyk_174 (by decide) rfl cw_X10_209 (c_X10_item l D E z a3 (3 : Int32) M12 v16 M15 h14) yn_X10_item rfl ⟨Nat.le_of_ble_eq_true rfl, Nat.le_of_ble_eq_true rfl⟩ rfl rfl (Nat.le_of_ble_eq_true rfl) ⟨Nat.zero_le _, Nat.zero_le _⟩ dX10_assignAll_93 rfl ?_
          refine am_icmp_ge F (tgt := 102) dX10_assignAll_96 (by decide) (fun c17 => ?_) (fun c17 => ?_)
          · have h := (if_pos c17).symm.trans h
            refine am_iinc F [(4, .int (a4 + (1 : Int32))), (0, .ref (z + 174)), (1, .int a1), (2, .int a2), (3, .int a3)] 4 dX10_assignAll_102 (by decide) rfl rfl rfl ?_
            refine am_goto F (tgt := 56) dX10_assignAll_105 (by decide) ?_
            exact am_sub (lv' := [(0, .ref (z + 174)), (1, .int a1), (2, .int a2), (3, .int a3), (4, .int (a4 + (1 : Int32)))]) [1, 2, 3, 4, 0] rfl (ih a3 (a4 + (1 : Int32)) M15 _ _ h K)
          · have h := (if_neg c17).symm.trans h
            refine am_iload F 4 dX10_assignAll_99 rfl ?_
            refine am_istore_n F [(3, .int a4), (0, .ref (z + 174)), (1, .int a1), (2, .int a2), (4, .int a4)] dX10_assignAll_101 rfl (by decide) rfl ?_
            refine am_iinc F [(4, .int (a4 + (1 : Int32))), (3, .int a4), (0, .ref (z + 174)), (1, .int a1), (2, .int a2)] 4 dX10_assignAll_102 (by decide) rfl rfl rfl ?_
            refine am_goto F (tgt := 56) dX10_assignAll_105 (by decide) ?_
            exact am_sub (lv' := [(0, .ref (z + 174)), (1, .int a1), (2, .int a2), (3, .int a4), (4, .int (a4 + (1 : Int32)))]) [2, 3, 4, 1, 0] rfl (ih a4 (a4 + (1 : Int32)) M15 _ _ h K)
def g_X10_assignAll_L47  : Nat → Int32 → Int32 → am_M → Option ((Int32) × am_M)
  | 0, _, _, _ => none
  | n + 1, a1, a2, M => (if a1 = (0 : Int32) then (some (a2, M)) else (am_b (g_X10_assignAll_L56 a1 a2 am_fu (-1 : Int32) (0 : Int32) M) (fun x21 M22 => (am_b (g_X10_bestOf x21 (1 : Int32) M22) (fun v26 M25 => (if v26 = (-1 : Int32) then (g_X10_assignAll_L47  n (a1 &&& (((1 : Int32) <<< (x21 &&& 31)) ^^^ (-1 : Int32))) a2 M25) else (am_b (g_X10_reason x21 v26 M25) (fun v29 M28 => (am_b (g_X10_serves x21 v26 M28) (fun _ M31 => (g_X10_assignAll_L47  n (a1 &&& (((1 : Int32) <<< (x21 &&& 31)) ^^^ (-1 : Int32))) (a2 + (1 : Int32)) M31)))))))))))
set_option maxHeartbeats 4000000 in
set_option maxRecDepth 100000 in
theorem cl_X10_assignAll_L47 {l : Launch} {p : Program} {e : Env} {s : State} {m : MethodId} {args : Array Value} {below : List Frame} {meth : Method} {c : Code} {Q : State → Prop} {D : va_G} {E : Nat → ClassId} {z : Nat} (F : am_F p s m args meth c cX10_assignAll 5 RX10 D E z)  : ∀ (n : Nat) (a1 : Int32) (a2 : Int32) (M : am_M) (x : Int32) (M1 : am_M), g_X10_assignAll_L47  n a1 a2 M = some (x, M1) → (am_W p l e rm_X10_assignAll s m args below meth c Q 5 D E z 0 0 M1 151 [(2, .int x)] []) → am_W p l e rm_X10_assignAll s m args below meth c Q 5 D E z 0 0 M 47 [(0, .ref (z + 174)), (1, .int a1), (2, .int a2)] [] := by
  intro n
  induction n with
  | zero => intro a1 a2 M x M1 h K; cases h
  | succ n ih =>
    intro a1 a2 M x M1 h K
    rw [g_X10_assignAll_L47] at h
    refine am_iload_n F 1 dX10_assignAll_47 rfl rfl ?_
    refine am_if_eq F (tgt := 151) dX10_assignAll_48 (by decide) (fun c33 => ?_) (fun c33 => ?_)
    · have h := (if_pos c33).symm.trans h
      cases h
      exact am_sub (lv' := [(2, .int a2)]) [2] rfl (K)
    · have h := (if_neg c33).symm.trans h
      refine am_iconst F (v := (-1 : Int32)) dX10_assignAll_51 (by decide) ?_
      refine am_istore_n F [(3, .int (-1 : Int32)), (0, .ref (z + 174)), (1, .int a1), (2, .int a2)] dX10_assignAll_52 rfl (by decide) rfl ?_
      refine am_iconst F (v := (0 : Int32)) dX10_assignAll_53 (by decide) ?_
      refine am_istore F [(4, .int (0 : Int32)), (3, .int (-1 : Int32)), (0, .ref (z + 174)), (1, .int a1), (2, .int a2)] dX10_assignAll_54 (by decide) rfl ?_
      obtain ⟨x21, M22, h23, h⟩ := am_bE h
      refine am_sub (lv' := [(0, .ref (z + 174)), (1, .int a1), (2, .int a2), (3, .int (-1 : Int32)), (4, .int (0 : Int32))]) [2, 3, 4, 1, 0] rfl (cl_X10_assignAll_L56 F a1 a2 am_fu (-1 : Int32) (0 : Int32) M x21 M22 h23 ?_)
      refine am_iload_n F 1 dX10_assignAll_108 rfl rfl ?_
      refine am_iconst F (v := (1 : Int32)) dX10_assignAll_109 (by decide) ?_
      refine am_iload_n F 3 dX10_assignAll_110 rfl rfl ?_
      refine am_ishl F dX10_assignAll_111 ?_
      refine am_iconst F (v := (-1 : Int32)) dX10_assignAll_112 (by decide) ?_
      refine am_ixor F dX10_assignAll_113 ?_
      refine am_iand F dX10_assignAll_114 ?_
      refine am_istore_n F [(1, .int (a1 &&& (((1 : Int32) <<< (x21 &&& 31)) ^^^ (-1 : Int32)))), (0, .ref (z + 174)), (2, .int a2), (3, .int x21)] dX10_assignAll_115 rfl (by decide) rfl ?_
      refine am_aload_n F 1 dX10_assignAll_116 rfl rfl ?_
      refine am_iload_n F 3 dX10_assignAll_117 rfl rfl ?_
      refine am_iconst F (v := (1 : Int32)) dX10_assignAll_118 (by decide) ?_
      obtain ⟨v26, M25, h24, h⟩ := am_bE h
      refine am_callVi F [.int x21, .int (1 : Int32)] lyk_174 (by decide) rfl cw_X10_228 (c_X10_bestOf l D E z x21 (1 : Int32) M22 v26 M25 h24) yn_X10_bestOf rfl ⟨Nat.le_of_ble_eq_true rfl, Nat.le_of_ble_eq_true rfl⟩ rfl rfl (Nat.le_of_ble_eq_true rfl) ⟨Nat.zero_le _, Nat.zero_le _⟩ dX10_assignAll_119 rfl ?_
      refine am_istore F [(4, .int v26), (1, .int (a1 &&& (((1 : Int32) <<< (x21 &&& 31)) ^^^ (-1 : Int32)))), (0, .ref (z + 174)), (2, .int a2), (3, .int x21)] dX10_assignAll_122 (by decide) rfl ?_
      refine am_iload F 0 dX10_assignAll_124 rfl ?_
      refine am_iconst F (v := (-1 : Int32)) dX10_assignAll_126 (by decide) ?_
      refine am_icmp_eq F (tgt := 148) dX10_assignAll_127 (by decide) (fun c32 => ?_) (fun c32 => ?_)
      · have h := (if_pos c32).symm.trans h
        refine am_goto F (tgt := 47) dX10_assignAll_148 (by decide) ?_
        exact am_sub (lv' := [(0, .ref (z + 174)), (1, .int (a1 &&& (((1 : Int32) <<< (x21 &&& 31)) ^^^ (-1 : Int32)))), (2, .int a2)]) [2, 1, 3] rfl (ih (a1 &&& (((1 : Int32) <<< (x21 &&& 31)) ^^^ (-1 : Int32))) a2 M25 _ _ h K)
      · have h := (if_neg c32).symm.trans h
        refine am_iinc F [(2, .int (a2 + (1 : Int32))), (4, .int v26), (1, .int (a1 &&& (((1 : Int32) <<< (x21 &&& 31)) ^^^ (-1 : Int32)))), (0, .ref (z + 174)), (3, .int x21)] 3 dX10_assignAll_130 (by decide) rfl rfl rfl ?_
        refine am_aload_n F 3 dX10_assignAll_133 rfl rfl ?_
        refine am_iload_n F 4 dX10_assignAll_134 rfl rfl ?_
        refine am_iload F 1 dX10_assignAll_135 rfl ?_
        obtain ⟨v29, M28, h27, h⟩ := am_bE h
        refine am_callVi F [.int x21, .int v26] lyk_174 (by decide) rfl cw_X10_221 (c_X10_reason l D E z x21 v26 M25 v29 M28 h27) yn_X10_reason rfl ⟨Nat.le_of_ble_eq_true rfl, Nat.le_of_ble_eq_true rfl⟩ rfl rfl (Nat.le_of_ble_eq_true rfl) ⟨Nat.zero_le _, Nat.zero_le _⟩ dX10_assignAll_137 rfl ?_
        refine am_pop F dX10_assignAll_140 rfl ?_
        refine am_aload_n F 3 dX10_assignAll_141 rfl rfl ?_
        refine am_iload_n F 4 dX10_assignAll_142 rfl rfl ?_
        refine am_iload F 1 dX10_assignAll_143 rfl ?_
        obtain ⟨_, M31, h30, h⟩ := am_bE h
        refine am_callVv F [.int x21, .int v26] lyk_174 (by decide) rfl cw_X10_224 (c_X10_serves l D E z x21 v26 M28 M31 h30) yn_X10_serves rfl ⟨Nat.le_of_ble_eq_true rfl, Nat.le_of_ble_eq_true rfl⟩ rfl rfl (Nat.le_of_ble_eq_true rfl) ⟨Nat.zero_le _, Nat.zero_le _⟩ dX10_assignAll_145 rfl ?_
        refine am_goto F (tgt := 47) dX10_assignAll_148 (by decide) ?_
        exact am_sub (lv' := [(0, .ref (z + 174)), (1, .int (a1 &&& (((1 : Int32) <<< (x21 &&& 31)) ^^^ (-1 : Int32)))), (2, .int (a2 + (1 : Int32)))]) [3, 2, 0] rfl (ih (a1 &&& (((1 : Int32) <<< (x21 &&& 31)) ^^^ (-1 : Int32))) (a2 + (1 : Int32)) M31 _ _ h K)
def g_X10_assignAll  (M : am_M) : Option (Int32 × am_M) := (am_b (g_X10_assignAll_L9  am_fu (0 : Int32) (0 : Int32) (am_s M 174 0 (0 : Int32))) (fun x7 M8 => (am_b (g_X10_assignAll_L47  am_fu x7 (0 : Int32) M8) (fun x34 M35 => (some (x34, M35))))))
set_option maxHeartbeats 4000000 in
set_option maxRecDepth 100000 in
theorem c_X10_assignAll (l : Launch) (D : va_G) (E : Nat → ClassId) (z : Nat)  (M : am_M) (r0 : Int32) (M1 : am_M) (h : g_X10_assignAll  M = some (r0, M1)) : am_Mi l yX10_assignAll cX10_assignAll 5 (some .int) rm_X10_assignAll D E z [.ref (z + 174)] M r0 M1 := by
  unfold g_X10_assignAll at h
  refine am_of (own := RX10) (by decide +kernel) rfl (by exact Nat.le_of_ble_eq_true rfl) ?_
  intro p e s m args below meth c F hr
  show am_W p l e rm_X10_assignAll s m args below meth c _ 5 D E z 0 0 M 0 [(0, .ref (z + 174))] []
  refine am_aload_n F 0 dX10_assignAll_0 rfl rfl ?_
  refine am_iconst F (v := (0 : Int32)) dX10_assignAll_1 (by decide) ?_
  refine pf_X10_51 F lyk_174 dX10_assignAll_2 ?_
  refine am_iconst F (v := (0 : Int32)) dX10_assignAll_5 (by decide) ?_
  refine am_istore_n F [(1, .int (0 : Int32)), (0, .ref (z + 174))] dX10_assignAll_6 rfl (by decide) rfl ?_
  refine am_iconst F (v := (0 : Int32)) dX10_assignAll_7 (by decide) ?_
  refine am_istore_n F [(2, .int (0 : Int32)), (1, .int (0 : Int32)), (0, .ref (z + 174))] dX10_assignAll_8 rfl (by decide) rfl ?_
  obtain ⟨x7, M8, h9, h⟩ := am_bE h
  refine am_sub (lv' := [(0, .ref (z + 174)), (1, .int (0 : Int32)), (2, .int (0 : Int32))]) [2, 1, 0] rfl (cl_X10_assignAll_L9 F  am_fu (0 : Int32) (0 : Int32) (am_s M 174 0 (0 : Int32)) x7 M8 h9 ?_)
  refine am_iconst F (v := (0 : Int32)) dX10_assignAll_45 (by decide) ?_
  refine am_istore_n F [(2, .int (0 : Int32)), (0, .ref (z + 174)), (1, .int x7)] dX10_assignAll_46 rfl (by decide) rfl ?_
  obtain ⟨x34, M35, h36, h⟩ := am_bE h
  refine am_sub (lv' := [(0, .ref (z + 174)), (1, .int x7), (2, .int (0 : Int32))]) [1, 2, 0] rfl (cl_X10_assignAll_L47 F  am_fu x7 (0 : Int32) M8 x34 M35 h36 ?_)
  refine am_iload_n F 0 dX10_assignAll_151 rfl rfl ?_
  exact am_iret F hr h dX10_assignAll_152
/-! AisleSchedulerModel.tasksIn(I)I -/
abbrev rm_X10_tasksIn : Room := { frames := 2, cells := 0, slots := 0, locals := 46 }
theorem yn_X10_tasksIn : am_yn yX10_tasksIn 1 := ⟨⟨by decide +kernel, by decide +kernel⟩, by decide +kernel⟩
def g_X10_tasksIn_L24 (a1 : Int32) : Nat → Int32 → Int32 → am_M → Option ((Int32) × am_M)
  | 0, _, _, _ => none
  | n + 1, a2, a3, M => (am_ci (7 : Int32) 406 (if (am_g M 175 (7 : Int32).toNatClampNeg) ≤ a3 then (some (a2, M)) else (am_b (g_X10_item a3 (4 : Int32) M) (fun v7 M6 => (if v7 = a1 then (g_X10_tasksIn_L24 a1 n (a2 + (1 : Int32)) (a3 + (1 : Int32)) M6) else (g_X10_tasksIn_L24 a1 n (a2 + (0 : Int32)) (a3 + (1 : Int32)) M6))))))
set_option maxHeartbeats 4000000 in
set_option maxRecDepth 100000 in
theorem cl_X10_tasksIn_L24 {l : Launch} {p : Program} {e : Env} {s : State} {m : MethodId} {args : Array Value} {below : List Frame} {meth : Method} {c : Code} {Q : State → Prop} {D : va_G} {E : Nat → ClassId} {z : Nat} (F : am_F p s m args meth c cX10_tasksIn 4 RX10 D E z) (a1 : Int32) : ∀ (n : Nat) (a2 : Int32) (a3 : Int32) (M : am_M) (x : Int32) (M1 : am_M), g_X10_tasksIn_L24 a1 n a2 a3 M = some (x, M1) → (am_W p l e rm_X10_tasksIn s m args below meth c Q 4 D E z 0 0 M1 59 [(2, .int x)] []) → am_W p l e rm_X10_tasksIn s m args below meth c Q 4 D E z 0 0 M 24 [(0, .ref (z + 174)), (1, .int a1), (2, .int a2), (3, .int a3)] [] := by
  intro n
  induction n with
  | zero => intro a2 a3 M x M1 h K; cases h
  | succ n ih =>
    intro a2 a3 M x M1 h K
    rw [g_X10_tasksIn_L24] at h
    refine am_iload_n F 3 dX10_tasksIn_24 rfl rfl ?_
    refine am_aload_n F 0 dX10_tasksIn_25 rfl rfl ?_
    refine gf_X10_7 F lyk_174 dX10_tasksIn_26 ?_
    refine am_bipush F (v := (7 : Int32)) dX10_tasksIn_29 (by decide) ?_
    obtain ⟨q4, h⟩ := am_ciE h
    refine am_iald F lyk_175 q4 dX10_tasksIn_31 ?_
    refine am_icmp_ge F (tgt := 59) dX10_tasksIn_32 (by decide) (fun c9 => ?_) (fun c9 => ?_)
    · have h := (if_pos c9).symm.trans h
      cases h
      exact am_sub (lv' := [(2, .int a2)]) [2] rfl (K)
    · have h := (if_neg c9).symm.trans h
      refine am_iload_n F 2 dX10_tasksIn_35 rfl rfl ?_
      refine am_aload_n F 0 dX10_tasksIn_36 rfl rfl ?_
      refine am_iload_n F 3 dX10_tasksIn_37 rfl rfl ?_
      refine am_iconst F (v := (4 : Int32)) dX10_tasksIn_38 (by decide) ?_
      obtain ⟨v7, M6, h5, h⟩ := am_bE h
      refine am_callVi F [.int a3, .int (4 : Int32)] lyk_174 (by decide) rfl cw_X10_209 (c_X10_item l D E z a3 (4 : Int32) M v7 M6 h5) yn_X10_item rfl ⟨Nat.le_of_ble_eq_true rfl, Nat.le_of_ble_eq_true rfl⟩ rfl rfl (Nat.le_of_ble_eq_true rfl) ⟨Nat.zero_le _, Nat.zero_le _⟩ dX10_tasksIn_39 rfl ?_
      refine am_iload_n F 1 dX10_tasksIn_42 rfl rfl ?_
      refine am_icmp_ne F (tgt := 50) dX10_tasksIn_43 (by decide) (fun c8 => ?_) (fun c8 => ?_)
      · have h := (if_neg c8).symm.trans h
        refine am_iconst F (v := (0 : Int32)) dX10_tasksIn_50 (by decide) ?_
        refine am_iadd F dX10_tasksIn_51 ?_
        refine am_istore_n F [(2, .int (a2 + (0 : Int32))), (0, .ref (z + 174)), (1, .int a1), (3, .int a3)] dX10_tasksIn_52 rfl (by decide) rfl ?_
        refine am_iinc F [(3, .int (a3 + (1 : Int32))), (2, .int (a2 + (0 : Int32))), (0, .ref (z + 174)), (1, .int a1)] 3 dX10_tasksIn_53 (by decide) rfl rfl rfl ?_
        refine am_goto F (tgt := 24) dX10_tasksIn_56 (by decide) ?_
        exact am_sub (lv' := [(0, .ref (z + 174)), (1, .int a1), (2, .int (a2 + (0 : Int32))), (3, .int (a3 + (1 : Int32)))]) [2, 3, 1, 0] rfl (ih (a2 + (0 : Int32)) (a3 + (1 : Int32)) M6 _ _ h K)
      · have h := (if_pos c8).symm.trans h
        refine am_iconst F (v := (1 : Int32)) dX10_tasksIn_46 (by decide) ?_
        refine am_goto F (tgt := 51) dX10_tasksIn_47 (by decide) ?_
        refine am_iadd F dX10_tasksIn_51 ?_
        refine am_istore_n F [(2, .int (a2 + (1 : Int32))), (0, .ref (z + 174)), (1, .int a1), (3, .int a3)] dX10_tasksIn_52 rfl (by decide) rfl ?_
        refine am_iinc F [(3, .int (a3 + (1 : Int32))), (2, .int (a2 + (1 : Int32))), (0, .ref (z + 174)), (1, .int a1)] 3 dX10_tasksIn_53 (by decide) rfl rfl rfl ?_
        refine am_goto F (tgt := 24) dX10_tasksIn_56 (by decide) ?_
        exact am_sub (lv' := [(0, .ref (z + 174)), (1, .int a1), (2, .int (a2 + (1 : Int32))), (3, .int (a3 + (1 : Int32)))]) [2, 3, 1, 0] rfl (ih (a2 + (1 : Int32)) (a3 + (1 : Int32)) M6 _ _ h K)
def g_X10_tasksIn (a1 : Int32) (M : am_M) : Option (Int32 × am_M) := (am_b (g_X10_in a1 (0 : Int32) (3 : Int32) (am_s M 174 0 (0 : Int32))) (fun v3 M2 => (if v3 = (0 : Int32) then (am_b (g_X10_fails (1 : Int32) M2) (fun v15 M14 => (some (v15, M14)))) else (am_b (g_X10_tasksIn_L24 a1 am_fu (0 : Int32) (0 : Int32) M2) (fun x10 M11 => (some (x10, M11)))))))
set_option maxHeartbeats 4000000 in
set_option maxRecDepth 100000 in
theorem c_X10_tasksIn (l : Launch) (D : va_G) (E : Nat → ClassId) (z : Nat) (a1 : Int32) (M : am_M) (r0 : Int32) (M1 : am_M) (h : g_X10_tasksIn a1 M = some (r0, M1)) : am_Mi l yX10_tasksIn cX10_tasksIn 4 (some .int) rm_X10_tasksIn D E z [.ref (z + 174), .int a1] M r0 M1 := by
  unfold g_X10_tasksIn at h
  refine am_of (own := RX10) (by decide +kernel) rfl (by exact Nat.le_of_ble_eq_true rfl) ?_
  intro p e s m args below meth c F hr
  show am_W p l e rm_X10_tasksIn s m args below meth c _ 4 D E z 0 0 M 0 [(0, .ref (z + 174)), (1, .int a1)] []
  refine am_aload_n F 0 dX10_tasksIn_0 rfl rfl ?_
  refine am_iconst F (v := (0 : Int32)) dX10_tasksIn_1 (by decide) ?_
  refine pf_X10_51 F lyk_174 dX10_tasksIn_2 ?_
  refine am_iload_n F 1 dX10_tasksIn_5 rfl rfl ?_
  refine am_iconst F (v := (0 : Int32)) dX10_tasksIn_6 (by decide) ?_
  refine am_iconst F (v := (3 : Int32)) dX10_tasksIn_7 (by decide) ?_
  obtain ⟨v3, M2, h1, h⟩ := am_bE h
  refine am_callSi F [.int a1, .int (0 : Int32), .int (3 : Int32)] cw_X10_54 rfl (c_X10_in l D E z a1 (0 : Int32) (3 : Int32) (am_s M 174 0 (0 : Int32)) v3 M2 h1) yn_X10_in rfl ⟨Nat.le_of_ble_eq_true rfl, Nat.le_of_ble_eq_true rfl⟩ rfl rfl (Nat.le_of_ble_eq_true rfl) ⟨Nat.zero_le _, Nat.zero_le _⟩ dX10_tasksIn_8 rfl ?_
  refine am_if_ne F (tgt := 20) dX10_tasksIn_11 (by decide) (fun c16 => ?_) (fun c16 => ?_)
  · have h := (if_neg c16).symm.trans h
    refine am_iconst F (v := (0 : Int32)) dX10_tasksIn_20 (by decide) ?_
    refine am_istore_n F [(2, .int (0 : Int32)), (0, .ref (z + 174)), (1, .int a1)] dX10_tasksIn_21 rfl (by decide) rfl ?_
    refine am_iconst F (v := (0 : Int32)) dX10_tasksIn_22 (by decide) ?_
    refine am_istore_n F [(3, .int (0 : Int32)), (2, .int (0 : Int32)), (0, .ref (z + 174)), (1, .int a1)] dX10_tasksIn_23 rfl (by decide) rfl ?_
    obtain ⟨x10, M11, h12, h⟩ := am_bE h
    refine am_sub (lv' := [(0, .ref (z + 174)), (1, .int a1), (2, .int (0 : Int32)), (3, .int (0 : Int32))]) [2, 3, 1, 0] rfl (cl_X10_tasksIn_L24 F a1 am_fu (0 : Int32) (0 : Int32) M2 x10 M11 h12 ?_)
    refine am_iload_n F 0 dX10_tasksIn_59 rfl rfl ?_
    exact am_iret F hr h dX10_tasksIn_60
  · have h := (if_pos c16).symm.trans h
    refine am_aload_n F 0 dX10_tasksIn_14 rfl rfl ?_
    refine am_iconst F (v := (1 : Int32)) dX10_tasksIn_15 (by decide) ?_
    obtain ⟨v15, M14, h13, h⟩ := am_bE h
    refine am_callVi F [.int (1 : Int32)] lyk_174 (by decide) rfl cw_X10_164 (c_X10_fails l D E z (1 : Int32) M2 v15 M14 h13) yn_X10_fails rfl ⟨Nat.le_of_ble_eq_true rfl, Nat.le_of_ble_eq_true rfl⟩ rfl rfl (Nat.le_of_ble_eq_true rfl) ⟨Nat.zero_le _, Nat.zero_le _⟩ dX10_tasksIn_16 rfl ?_
    exact am_iret F hr h dX10_tasksIn_19
/-! AisleSchedulerModel.waits(I)V -/
abbrev rm_X10_waits : Room := { frames := 2, cells := 0, slots := 0, locals := 47 }
theorem yn_X10_waits : am_yn yX10_waits 1 := ⟨⟨by decide +kernel, by decide +kernel⟩, by decide +kernel⟩
def g_X10_waits (a1 : Int32) (M : am_M) : Option (Unit × am_M) := (am_b (g_X10_adds a1 (7 : Int32) (1 : Int32) M) (fun _ M2 => (am_b (g_X10_of a1 (0 : Int32) M2) (fun v5 M4 => (am_ci ((8 : Int32) + v5) 406 (if (am_g M4 175 ((8 : Int32) + v5).toNatClampNeg) = (2 : Int32) then (am_b (g_X10_of a1 (1 : Int32) M4) (fun v9 M8 => (am_b (g_X10_adds a1 (1 : Int32) (if ((100 : Int32) - v9) < (5 : Int32) then ((100 : Int32) - v9) else (5 : Int32)) M8) (fun _ M11 => (am_b (g_X10_adds a1 (9 : Int32) (if ((100 : Int32) - v9) < (5 : Int32) then ((100 : Int32) - v9) else (5 : Int32)) M11) (fun _ M13 => (some ((), M13)))))))) else (some ((), M4))))))))
set_option maxHeartbeats 4000000 in
set_option maxRecDepth 100000 in
theorem c_X10_waits (l : Launch) (D : va_G) (E : Nat → ClassId) (z : Nat) (a1 : Int32) (M : am_M)  (M1 : am_M) (h : g_X10_waits a1 M = some ((), M1)) : am_Mv l yX10_waits cX10_waits 3 none rm_X10_waits D E z [.ref (z + 174), .int a1] M M1 := by
  unfold g_X10_waits at h
  refine am_of (own := RX10) (by decide +kernel) rfl (by exact Nat.le_of_ble_eq_true rfl) ?_
  intro p e s m args below meth c F hr
  show am_W p l e rm_X10_waits s m args below meth c _ 3 D E z 0 0 M 0 [(0, .ref (z + 174)), (1, .int a1)] []
  refine am_aload_n F 0 dX10_waits_0 rfl rfl ?_
  refine am_iload_n F 1 dX10_waits_1 rfl rfl ?_
  refine am_bipush F (v := (7 : Int32)) dX10_waits_2 (by decide) ?_
  refine am_iconst F (v := (1 : Int32)) dX10_waits_4 (by decide) ?_
  obtain ⟨_, M2, h1, h⟩ := am_bE h
  refine am_callVv F [.int a1, .int (7 : Int32), .int (1 : Int32)] lyk_174 (by decide) rfl cw_X10_232 (c_X10_adds l D E z a1 (7 : Int32) (1 : Int32) M M2 h1) yn_X10_adds rfl ⟨Nat.le_of_ble_eq_true rfl, Nat.le_of_ble_eq_true rfl⟩ rfl rfl (Nat.le_of_ble_eq_true rfl) ⟨Nat.zero_le _, Nat.zero_le _⟩ dX10_waits_5 rfl ?_
  refine am_aload_n F 0 dX10_waits_8 rfl rfl ?_
  refine gf_X10_7 F lyk_174 dX10_waits_9 ?_
  refine am_bipush F (v := (8 : Int32)) dX10_waits_12 (by decide) ?_
  refine am_aload_n F 0 dX10_waits_14 rfl rfl ?_
  refine am_iload_n F 1 dX10_waits_15 rfl rfl ?_
  refine am_iconst F (v := (0 : Int32)) dX10_waits_16 (by decide) ?_
  obtain ⟨v5, M4, h3, h⟩ := am_bE h
  refine am_callVi F [.int a1, .int (0 : Int32)] lyk_174 (by decide) rfl cw_X10_58 (c_X10_of l D E z a1 (0 : Int32) M2 v5 M4 h3) yn_X10_of rfl ⟨Nat.le_of_ble_eq_true rfl, Nat.le_of_ble_eq_true rfl⟩ rfl rfl (Nat.le_of_ble_eq_true rfl) ⟨Nat.zero_le _, Nat.zero_le _⟩ dX10_waits_17 rfl ?_
  refine am_iadd F dX10_waits_20 ?_
  obtain ⟨q6, h⟩ := am_ciE h
  refine am_iald F lyk_175 q6 dX10_waits_21 ?_
  refine am_iconst F (v := (2 : Int32)) dX10_waits_22 (by decide) ?_
  refine am_icmp_eq F (tgt := 27) dX10_waits_23 (by decide) (fun c14 => ?_) (fun c14 => ?_)
  · have h := (if_pos c14).symm.trans h
    refine am_iconst F (v := (5 : Int32)) dX10_waits_27 (by decide) ?_
    refine am_bipush F (v := (100 : Int32)) dX10_waits_28 (by decide) ?_
    refine am_aload_n F 0 dX10_waits_30 rfl rfl ?_
    refine am_iload_n F 1 dX10_waits_31 rfl rfl ?_
    refine am_iconst F (v := (1 : Int32)) dX10_waits_32 (by decide) ?_
    obtain ⟨v9, M8, h7, h⟩ := am_bE h
    refine am_callVi F [.int a1, .int (1 : Int32)] lyk_174 (by decide) rfl cw_X10_58 (c_X10_of l D E z a1 (1 : Int32) M4 v9 M8 h7) yn_X10_of rfl ⟨Nat.le_of_ble_eq_true rfl, Nat.le_of_ble_eq_true rfl⟩ rfl rfl (Nat.le_of_ble_eq_true rfl) ⟨Nat.zero_le _, Nat.zero_le _⟩ dX10_waits_33 rfl ?_
    refine am_isub F dX10_waits_36 ?_
    refine am_min F dX10_waits_37 wd_1485 (Nat.le_of_ble_eq_true rfl) (Nat.le_of_ble_eq_true rfl) (Nat.le_of_ble_eq_true rfl) (Nat.le_of_ble_eq_true rfl) ?_
    refine am_istore_n F [(2, .int (if ((100 : Int32) - v9) < (5 : Int32) then ((100 : Int32) - v9) else (5 : Int32))), (0, .ref (z + 174)), (1, .int a1)] dX10_waits_40 rfl (by decide) rfl ?_
    refine am_aload_n F 1 dX10_waits_41 rfl rfl ?_
    refine am_iload_n F 2 dX10_waits_42 rfl rfl ?_
    refine am_iconst F (v := (1 : Int32)) dX10_waits_43 (by decide) ?_
    refine am_iload_n F 0 dX10_waits_44 rfl rfl ?_
    obtain ⟨_, M11, h10, h⟩ := am_bE h
    refine am_callVv F [.int a1, .int (1 : Int32), .int (if ((100 : Int32) - v9) < (5 : Int32) then ((100 : Int32) - v9) else (5 : Int32))] lyk_174 (by decide) rfl cw_X10_232 (c_X10_adds l D E z a1 (1 : Int32) (if ((100 : Int32) - v9) < (5 : Int32) then ((100 : Int32) - v9) else (5 : Int32)) M8 M11 h10) yn_X10_adds rfl ⟨Nat.le_of_ble_eq_true rfl, Nat.le_of_ble_eq_true rfl⟩ rfl rfl (Nat.le_of_ble_eq_true rfl) ⟨Nat.zero_le _, Nat.zero_le _⟩ dX10_waits_45 rfl ?_
    refine am_aload_n F 1 dX10_waits_48 rfl rfl ?_
    refine am_iload_n F 2 dX10_waits_49 rfl rfl ?_
    refine am_bipush F (v := (9 : Int32)) dX10_waits_50 (by decide) ?_
    refine am_iload_n F 0 dX10_waits_52 rfl rfl ?_
    obtain ⟨_, M13, h12, h⟩ := am_bE h
    refine am_callVv F [.int a1, .int (9 : Int32), .int (if ((100 : Int32) - v9) < (5 : Int32) then ((100 : Int32) - v9) else (5 : Int32))] lyk_174 (by decide) rfl cw_X10_232 (c_X10_adds l D E z a1 (9 : Int32) (if ((100 : Int32) - v9) < (5 : Int32) then ((100 : Int32) - v9) else (5 : Int32)) M11 M13 h12) yn_X10_adds rfl ⟨Nat.le_of_ble_eq_true rfl, Nat.le_of_ble_eq_true rfl⟩ rfl rfl (Nat.le_of_ble_eq_true rfl) ⟨Nat.zero_le _, Nat.zero_le _⟩ dX10_waits_53 rfl ?_
    exact am_vret F hr h dX10_waits_56
  · have h := (if_neg c14).symm.trans h
    exact am_vret F hr h dX10_waits_26
/-! AisleSchedulerModel.shifts(I)V -/
abbrev rm_X10_shifts : Room := { frames := 3, cells := 0, slots := 0, locals := 68 }
theorem yn_X10_shifts : am_yn yX10_shifts 1 := ⟨⟨by decide +kernel, by decide +kernel⟩, by decide +kernel⟩
def g_X10_shifts_L23 (a1 : Int32) : Nat → Int32 → am_M → Option ((Unit) × am_M)
  | 0, _, _ => none
  | n + 1, a2, M => (am_b (g_X10_of a1 (2 : Int32) M) (fun v10 M9 => (if v10 ≤ a2 then (some ((), M9)) else (am_b (g_X10_act a1 (a2 + (1 : Int32)) M9) (fun v13 M12 => (am_b (g_X10_put a1 ((11 : Int32) + a2) v13 M12) (fun _ M15 => (g_X10_shifts_L23 a1 n (a2 + (1 : Int32)) M15))))))))
set_option maxHeartbeats 4000000 in
set_option maxRecDepth 100000 in
theorem cl_X10_shifts_L23 {l : Launch} {p : Program} {e : Env} {s : State} {m : MethodId} {args : Array Value} {below : List Frame} {meth : Method} {c : Code} {Q : State → Prop} {D : va_G} {E : Nat → ClassId} {z : Nat} (F : am_F p s m args meth c cX10_shifts 3 RX10 D E z) (a1 : Int32) : ∀ (n : Nat) (a2 : Int32) (M : am_M) (x : Unit) (M1 : am_M), g_X10_shifts_L23 a1 n a2 M = some (x, M1) → (am_W p l e rm_X10_shifts s m args below meth c Q 3 D E z 0 0 M1 56 [] []) → am_W p l e rm_X10_shifts s m args below meth c Q 3 D E z 0 0 M 23 [(0, .ref (z + 174)), (1, .int a1), (2, .int a2)] [] := by
  intro n
  induction n with
  | zero => intro a2 M x M1 h K; cases h
  | succ n ih =>
    intro a2 M x M1 h K
    rw [g_X10_shifts_L23] at h
    refine am_iload_n F 2 dX10_shifts_23 rfl rfl ?_
    refine am_aload_n F 0 dX10_shifts_24 rfl rfl ?_
    refine am_iload_n F 1 dX10_shifts_25 rfl rfl ?_
    refine am_iconst F (v := (2 : Int32)) dX10_shifts_26 (by decide) ?_
    obtain ⟨v10, M9, h8, h⟩ := am_bE h
    refine am_callVi F [.int a1, .int (2 : Int32)] lyk_174 (by decide) rfl cw_X10_58 (c_X10_of l D E z a1 (2 : Int32) M v10 M9 h8) yn_X10_of rfl ⟨Nat.le_of_ble_eq_true rfl, Nat.le_of_ble_eq_true rfl⟩ rfl rfl (Nat.le_of_ble_eq_true rfl) ⟨Nat.zero_le _, Nat.zero_le _⟩ dX10_shifts_27 rfl ?_
    refine am_icmp_ge F (tgt := 56) dX10_shifts_30 (by decide) (fun c16 => ?_) (fun c16 => ?_)
    · have h := (if_pos c16).symm.trans h
      cases h
      exact am_sub (lv' := []) [] rfl (K)
    · have h := (if_neg c16).symm.trans h
      refine am_aload_n F 0 dX10_shifts_33 rfl rfl ?_
      refine am_iload_n F 1 dX10_shifts_34 rfl rfl ?_
      refine am_bipush F (v := (11 : Int32)) dX10_shifts_35 (by decide) ?_
      refine am_iload_n F 2 dX10_shifts_37 rfl rfl ?_
      refine am_iadd F dX10_shifts_38 ?_
      refine am_aload_n F 0 dX10_shifts_39 rfl rfl ?_
      refine am_iload_n F 1 dX10_shifts_40 rfl rfl ?_
      refine am_iload_n F 2 dX10_shifts_41 rfl rfl ?_
      refine am_iconst F (v := (1 : Int32)) dX10_shifts_42 (by decide) ?_
      refine am_iadd F dX10_shifts_43 ?_
      obtain ⟨v13, M12, h11, h⟩ := am_bE h
      refine am_callVi F [.int a1, .int (a2 + (1 : Int32))] lyk_174 (by decide) rfl cw_X10_65 (c_X10_act l D E z a1 (a2 + (1 : Int32)) M9 v13 M12 h11) yn_X10_act rfl ⟨Nat.le_of_ble_eq_true rfl, Nat.le_of_ble_eq_true rfl⟩ rfl rfl (Nat.le_of_ble_eq_true rfl) ⟨Nat.zero_le _, Nat.zero_le _⟩ dX10_shifts_44 rfl ?_
      obtain ⟨_, M15, h14, h⟩ := am_bE h
      refine am_callVv F [.int a1, .int ((11 : Int32) + a2), .int v13] lyk_174 (by decide) rfl cw_X10_145 (c_X10_put l D E z a1 ((11 : Int32) + a2) v13 M12 M15 h14) yn_X10_put rfl ⟨Nat.le_of_ble_eq_true rfl, Nat.le_of_ble_eq_true rfl⟩ rfl rfl (Nat.le_of_ble_eq_true rfl) ⟨Nat.zero_le _, Nat.zero_le _⟩ dX10_shifts_47 rfl ?_
      refine am_iinc F [(2, .int (a2 + (1 : Int32))), (0, .ref (z + 174)), (1, .int a1)] 2 dX10_shifts_50 (by decide) rfl rfl rfl ?_
      refine am_goto F (tgt := 23) dX10_shifts_53 (by decide) ?_
      exact am_sub (lv' := [(0, .ref (z + 174)), (1, .int a1), (2, .int (a2 + (1 : Int32)))]) [1, 2, 0] rfl (ih (a2 + (1 : Int32)) M15 _ _ h K)
def g_X10_shifts (a1 : Int32) (M : am_M) : Option (Unit × am_M) := (am_b (g_X10_put a1 (3 : Int32) (0 : Int32) M) (fun _ M2 => (am_b (g_X10_of a1 (2 : Int32) M2) (fun v5 M4 => (am_b (g_X10_put a1 (2 : Int32) (v5 - (1 : Int32)) M4) (fun _ M7 => (am_b (g_X10_shifts_L23 a1 am_fu (0 : Int32) M7) (fun x17 M18 => (some ((), M18))))))))))
set_option maxHeartbeats 4000000 in
set_option maxRecDepth 100000 in
theorem c_X10_shifts (l : Launch) (D : va_G) (E : Nat → ClassId) (z : Nat) (a1 : Int32) (M : am_M)  (M1 : am_M) (h : g_X10_shifts a1 M = some ((), M1)) : am_Mv l yX10_shifts cX10_shifts 3 none rm_X10_shifts D E z [.ref (z + 174), .int a1] M M1 := by
  unfold g_X10_shifts at h
  refine am_of (own := RX10) (by decide +kernel) rfl (by exact Nat.le_of_ble_eq_true rfl) ?_
  intro p e s m args below meth c F hr
  show am_W p l e rm_X10_shifts s m args below meth c _ 3 D E z 0 0 M 0 [(0, .ref (z + 174)), (1, .int a1)] []
  refine am_aload_n F 0 dX10_shifts_0 rfl rfl ?_
  refine am_iload_n F 1 dX10_shifts_1 rfl rfl ?_
  refine am_iconst F (v := (3 : Int32)) dX10_shifts_2 (by decide) ?_
  refine am_iconst F (v := (0 : Int32)) dX10_shifts_3 (by decide) ?_
  obtain ⟨_, M2, h1, h⟩ := am_bE h
  refine am_callVv F [.int a1, .int (3 : Int32), .int (0 : Int32)] lyk_174 (by decide) rfl cw_X10_145 (c_X10_put l D E z a1 (3 : Int32) (0 : Int32) M M2 h1) yn_X10_put rfl ⟨Nat.le_of_ble_eq_true rfl, Nat.le_of_ble_eq_true rfl⟩ rfl rfl (Nat.le_of_ble_eq_true rfl) ⟨Nat.zero_le _, Nat.zero_le _⟩ dX10_shifts_4 rfl ?_
  refine am_aload_n F 0 dX10_shifts_7 rfl rfl ?_
  refine am_iload_n F 1 dX10_shifts_8 rfl rfl ?_
  refine am_iconst F (v := (2 : Int32)) dX10_shifts_9 (by decide) ?_
  refine am_aload_n F 0 dX10_shifts_10 rfl rfl ?_
  refine am_iload_n F 1 dX10_shifts_11 rfl rfl ?_
  refine am_iconst F (v := (2 : Int32)) dX10_shifts_12 (by decide) ?_
  obtain ⟨v5, M4, h3, h⟩ := am_bE h
  refine am_callVi F [.int a1, .int (2 : Int32)] lyk_174 (by decide) rfl cw_X10_58 (c_X10_of l D E z a1 (2 : Int32) M2 v5 M4 h3) yn_X10_of rfl ⟨Nat.le_of_ble_eq_true rfl, Nat.le_of_ble_eq_true rfl⟩ rfl rfl (Nat.le_of_ble_eq_true rfl) ⟨Nat.zero_le _, Nat.zero_le _⟩ dX10_shifts_13 rfl ?_
  refine am_iconst F (v := (1 : Int32)) dX10_shifts_16 (by decide) ?_
  refine am_isub F dX10_shifts_17 ?_
  obtain ⟨_, M7, h6, h⟩ := am_bE h
  refine am_callVv F [.int a1, .int (2 : Int32), .int (v5 - (1 : Int32))] lyk_174 (by decide) rfl cw_X10_145 (c_X10_put l D E z a1 (2 : Int32) (v5 - (1 : Int32)) M4 M7 h6) yn_X10_put rfl ⟨Nat.le_of_ble_eq_true rfl, Nat.le_of_ble_eq_true rfl⟩ rfl rfl (Nat.le_of_ble_eq_true rfl) ⟨Nat.zero_le _, Nat.zero_le _⟩ dX10_shifts_18 rfl ?_
  refine am_iconst F (v := (0 : Int32)) dX10_shifts_21 (by decide) ?_
  refine am_istore_n F [(2, .int (0 : Int32)), (0, .ref (z + 174)), (1, .int a1)] dX10_shifts_22 rfl (by decide) rfl ?_
  obtain ⟨x17, M18, h19, h⟩ := am_bE h
  refine am_sub (lv' := [(0, .ref (z + 174)), (1, .int a1), (2, .int (0 : Int32))]) [1, 2, 0] rfl (cl_X10_shifts_L23 F a1 am_fu (0 : Int32) M7 x17 M18 h19 ?_)
  exact am_vret F hr h dX10_shifts_56
/-! AisleSchedulerModel.does(I)V -/
abbrev rm_X10_does : Room := { frames := 4, cells := 0, slots := 0, locals := 90 }
theorem yn_X10_does : am_yn yX10_does 1 := ⟨⟨by decide +kernel, by decide +kernel⟩, by decide +kernel⟩
def g_X10_does_J103 (a1 : Int32) (a2 : Int32) (a3 : Int32) (M : am_M) : Option (Unit × am_M) := (if a2 = (0 : Int32) then (some ((), M)) else (am_b (g_X10_adds a1 (3 : Int32) (1 : Int32) M) (fun _ M15 => (am_b (g_X10_of a1 (3 : Int32) M15) (fun v18 M17 => (am_b (g_X10_takes a3 M17) (fun v21 M20 => (if v18 = v21 then (am_b (g_X10_of a1 (0 : Int32) M20) (fun v24 M23 => (am_b (g_X10_moved v24 a3 M23) (fun v27 M26 => (am_b (g_X10_put a1 (0 : Int32) v27 M26) (fun _ M29 => (am_b (g_X10_shifts a1 M29) (fun _ M31 => (some ((), M31)))))))))) else (some ((), M20))))))))))
set_option maxHeartbeats 4000000 in
set_option maxRecDepth 100000 in
theorem cj_X10_does_J103 {l : Launch} {p : Program} {e : Env} {s : State} {m : MethodId} {args : Array Value} {below : List Frame} {meth : Method} {c : Code} {D : va_G} {E : Nat → ClassId} {z : Nat} (F : am_F p s m args meth c cX10_does 4 RX10 D E z) (hr : meth.sig.returnType = none) (a1 : Int32) (a2 : Int32) (a3 : Int32) (M : am_M)  (M1 : am_M) (h : g_X10_does_J103 a1 a2 a3 M = some ((), M1)) : am_W p l e rm_X10_does s m args below meth c (MQ below (va_Qv (fun (u : am_M) => u = M1) (am_BQ z E D) (fun q => z ≤ q)) args s 0 0 (fun q => z ≤ q)) 4 D E z 0 0 M 103 [(0, .ref (z + 174)), (1, .int a1), (2, .int a2), (3, .int a3)] [] := by
  unfold g_X10_does_J103 at h
  refine am_iload_n F 2 dX10_does_103 rfl rfl ?_
  refine am_if_ne F (tgt := 108) dX10_does_104 (by decide) (fun c33 => ?_) (fun c33 => ?_)
  · have h := (if_neg c33).symm.trans h
    refine am_aload_n F 0 dX10_does_108 rfl rfl ?_
    refine am_iload_n F 1 dX10_does_109 rfl rfl ?_
    refine am_iconst F (v := (3 : Int32)) dX10_does_110 (by decide) ?_
    refine am_iconst F (v := (1 : Int32)) dX10_does_111 (by decide) ?_
    obtain ⟨_, M15, h14, h⟩ := am_bE h
    refine am_callVv F [.int a1, .int (3 : Int32), .int (1 : Int32)] lyk_174 (by decide) rfl cw_X10_232 (c_X10_adds l D E z a1 (3 : Int32) (1 : Int32) M M15 h14) yn_X10_adds rfl ⟨Nat.le_of_ble_eq_true rfl, Nat.le_of_ble_eq_true rfl⟩ rfl rfl (Nat.le_of_ble_eq_true rfl) ⟨Nat.zero_le _, Nat.zero_le _⟩ dX10_does_112 rfl ?_
    refine am_aload_n F 0 dX10_does_115 rfl rfl ?_
    refine am_iload_n F 1 dX10_does_116 rfl rfl ?_
    refine am_iconst F (v := (3 : Int32)) dX10_does_117 (by decide) ?_
    obtain ⟨v18, M17, h16, h⟩ := am_bE h
    refine am_callVi F [.int a1, .int (3 : Int32)] lyk_174 (by decide) rfl cw_X10_58 (c_X10_of l D E z a1 (3 : Int32) M15 v18 M17 h16) yn_X10_of rfl ⟨Nat.le_of_ble_eq_true rfl, Nat.le_of_ble_eq_true rfl⟩ rfl rfl (Nat.le_of_ble_eq_true rfl) ⟨Nat.zero_le _, Nat.zero_le _⟩ dX10_does_118 rfl ?_
    refine am_iload_n F 3 dX10_does_121 rfl rfl ?_
    obtain ⟨v21, M20, h19, h⟩ := am_bE h
    refine am_callSi F [.int a3] cw_X10_68 rfl (c_X10_takes l D E z a3 M17 v21 M20 h19) yn_X10_takes rfl ⟨Nat.le_of_ble_eq_true rfl, Nat.le_of_ble_eq_true rfl⟩ rfl rfl (Nat.le_of_ble_eq_true rfl) ⟨Nat.zero_le _, Nat.zero_le _⟩ dX10_does_122 rfl ?_
    refine am_icmp_ne F (tgt := 150) dX10_does_125 (by decide) (fun c32 => ?_) (fun c32 => ?_)
    · have h := (if_neg c32).symm.trans h
      exact am_vret F hr h dX10_does_150
    · have h := (if_pos c32).symm.trans h
      refine am_aload_n F 0 dX10_does_128 rfl rfl ?_
      refine am_iload_n F 1 dX10_does_129 rfl rfl ?_
      refine am_iconst F (v := (0 : Int32)) dX10_does_130 (by decide) ?_
      refine am_aload_n F 0 dX10_does_131 rfl rfl ?_
      refine am_aload_n F 0 dX10_does_132 rfl rfl ?_
      refine am_iload_n F 1 dX10_does_133 rfl rfl ?_
      refine am_iconst F (v := (0 : Int32)) dX10_does_134 (by decide) ?_
      obtain ⟨v24, M23, h22, h⟩ := am_bE h
      refine am_callVi F [.int a1, .int (0 : Int32)] lyk_174 (by decide) rfl cw_X10_58 (c_X10_of l D E z a1 (0 : Int32) M20 v24 M23 h22) yn_X10_of rfl ⟨Nat.le_of_ble_eq_true rfl, Nat.le_of_ble_eq_true rfl⟩ rfl rfl (Nat.le_of_ble_eq_true rfl) ⟨Nat.zero_le _, Nat.zero_le _⟩ dX10_does_135 rfl ?_
      refine am_iload_n F 3 dX10_does_138 rfl rfl ?_
      obtain ⟨v27, M26, h25, h⟩ := am_bE h
      refine am_callVi F [.int v24, .int a3] lyk_174 (by decide) rfl cw_X10_72 (c_X10_moved l D E z v24 a3 M23 v27 M26 h25) yn_X10_moved rfl ⟨Nat.le_of_ble_eq_true rfl, Nat.le_of_ble_eq_true rfl⟩ rfl rfl (Nat.le_of_ble_eq_true rfl) ⟨Nat.zero_le _, Nat.zero_le _⟩ dX10_does_139 rfl ?_
      obtain ⟨_, M29, h28, h⟩ := am_bE h
      refine am_callVv F [.int a1, .int (0 : Int32), .int v27] lyk_174 (by decide) rfl cw_X10_145 (c_X10_put l D E z a1 (0 : Int32) v27 M26 M29 h28) yn_X10_put rfl ⟨Nat.le_of_ble_eq_true rfl, Nat.le_of_ble_eq_true rfl⟩ rfl rfl (Nat.le_of_ble_eq_true rfl) ⟨Nat.zero_le _, Nat.zero_le _⟩ dX10_does_142 rfl ?_
      refine am_aload_n F 0 dX10_does_145 rfl rfl ?_
      refine am_iload_n F 1 dX10_does_146 rfl rfl ?_
      obtain ⟨_, M31, h30, h⟩ := am_bE h
      refine am_callVv F [.int a1] lyk_174 (by decide) rfl cw_X10_238 (c_X10_shifts l D E z a1 M29 M31 h30) yn_X10_shifts rfl ⟨Nat.le_of_ble_eq_true rfl, Nat.le_of_ble_eq_true rfl⟩ rfl rfl (Nat.le_of_ble_eq_true rfl) ⟨Nat.zero_le _, Nat.zero_le _⟩ dX10_does_147 rfl ?_
      exact am_vret F hr h dX10_does_150
  · have h := (if_pos c33).symm.trans h
    exact am_vret F hr h dX10_does_107
def g_X10_does_J87 (a1 : Int32) (a2 : Int32) (a3 : Int32) (M : am_M) : Option (Unit × am_M) := (am_b (g_X10_in a3 (1 : Int32) (4 : Int32) M) (fun v13 M12 => (if v13 = (0 : Int32) then (g_X10_does_J103 a1 a2 a3 M12) else (am_b (g_X10_adds a1 (5 : Int32) (1 : Int32) M12) (fun _ M35 => (g_X10_does_J103 a1 a2 a3 M35))))))
set_option maxHeartbeats 4000000 in
set_option maxRecDepth 100000 in
theorem cj_X10_does_J87 {l : Launch} {p : Program} {e : Env} {s : State} {m : MethodId} {args : Array Value} {below : List Frame} {meth : Method} {c : Code} {D : va_G} {E : Nat → ClassId} {z : Nat} (F : am_F p s m args meth c cX10_does 4 RX10 D E z) (hr : meth.sig.returnType = none) (a1 : Int32) (a2 : Int32) (a3 : Int32) (M : am_M)  (M1 : am_M) (h : g_X10_does_J87 a1 a2 a3 M = some ((), M1)) : am_W p l e rm_X10_does s m args below meth c (MQ below (va_Qv (fun (u : am_M) => u = M1) (am_BQ z E D) (fun q => z ≤ q)) args s 0 0 (fun q => z ≤ q)) 4 D E z 0 0 M 87 [(0, .ref (z + 174)), (1, .int a1), (2, .int a2), (3, .int a3)] [] := by
  unfold g_X10_does_J87 at h
  refine am_iload_n F 3 dX10_does_87 rfl rfl ?_
  refine am_iconst F (v := (1 : Int32)) dX10_does_88 (by decide) ?_
  refine am_iconst F (v := (4 : Int32)) dX10_does_89 (by decide) ?_
  obtain ⟨v13, M12, h11, h⟩ := am_bE h
  refine am_callSi F [.int a3, .int (1 : Int32), .int (4 : Int32)] cw_X10_54 rfl (c_X10_in l D E z a3 (1 : Int32) (4 : Int32) M v13 M12 h11) yn_X10_in rfl ⟨Nat.le_of_ble_eq_true rfl, Nat.le_of_ble_eq_true rfl⟩ rfl rfl (Nat.le_of_ble_eq_true rfl) ⟨Nat.zero_le _, Nat.zero_le _⟩ dX10_does_90 rfl ?_
  refine am_if_eq F (tgt := 103) dX10_does_93 (by decide) (fun c36 => ?_) (fun c36 => ?_)
  · have h := (if_pos c36).symm.trans h
    exact am_sub (lv' := [(0, .ref (z + 174)), (1, .int a1), (2, .int a2), (3, .int a3)]) [0, 1, 2, 3] rfl (cj_X10_does_J103 F hr a1 a2 a3 M12  M1 h)
  · have h := (if_neg c36).symm.trans h
    refine am_aload_n F 0 dX10_does_96 rfl rfl ?_
    refine am_iload_n F 1 dX10_does_97 rfl rfl ?_
    refine am_iconst F (v := (5 : Int32)) dX10_does_98 (by decide) ?_
    refine am_iconst F (v := (1 : Int32)) dX10_does_99 (by decide) ?_
    obtain ⟨_, M35, h34, h⟩ := am_bE h
    refine am_callVv F [.int a1, .int (5 : Int32), .int (1 : Int32)] lyk_174 (by decide) rfl cw_X10_232 (c_X10_adds l D E z a1 (5 : Int32) (1 : Int32) M12 M35 h34) yn_X10_adds rfl ⟨Nat.le_of_ble_eq_true rfl, Nat.le_of_ble_eq_true rfl⟩ rfl rfl (Nat.le_of_ble_eq_true rfl) ⟨Nat.zero_le _, Nat.zero_le _⟩ dX10_does_100 rfl ?_
    exact am_sub (lv' := [(0, .ref (z + 174)), (1, .int a1), (2, .int a2), (3, .int a3)]) [0, 1, 2, 3] rfl (cj_X10_does_J103 F hr a1 a2 a3 M35  M1 h)
def g_X10_does_J66 (a1 : Int32) (a2 : Int32) (a3 : Int32) (M : am_M) : Option (Unit × am_M) := (if a3 < (5 : Int32) then (g_X10_does_J87 a1 a2 a3 M) else (am_b (g_X10_isInLift a1 M) (fun v39 M38 => (if v39 = (0 : Int32) then (am_b (g_X10_adds a1 (6 : Int32) (1 : Int32) M38) (fun _ M41 => (g_X10_does_J87 a1 a2 a3 M41))) else (g_X10_does_J87 a1 a2 a3 M38)))))
set_option maxHeartbeats 4000000 in
set_option maxRecDepth 100000 in
theorem cj_X10_does_J66 {l : Launch} {p : Program} {e : Env} {s : State} {m : MethodId} {args : Array Value} {below : List Frame} {meth : Method} {c : Code} {D : va_G} {E : Nat → ClassId} {z : Nat} (F : am_F p s m args meth c cX10_does 4 RX10 D E z) (hr : meth.sig.returnType = none) (a1 : Int32) (a2 : Int32) (a3 : Int32) (M : am_M)  (M1 : am_M) (h : g_X10_does_J66 a1 a2 a3 M = some ((), M1)) : am_W p l e rm_X10_does s m args below meth c (MQ below (va_Qv (fun (u : am_M) => u = M1) (am_BQ z E D) (fun q => z ≤ q)) args s 0 0 (fun q => z ≤ q)) 4 D E z 0 0 M 66 [(0, .ref (z + 174)), (1, .int a1), (2, .int a2), (3, .int a3)] [] := by
  unfold g_X10_does_J66 at h
  refine am_iload_n F 3 dX10_does_66 rfl rfl ?_
  refine am_iconst F (v := (5 : Int32)) dX10_does_67 (by decide) ?_
  refine am_icmp_lt F (tgt := 87) dX10_does_68 (by decide) (fun c43 => ?_) (fun c43 => ?_)
  · have h := (if_pos c43).symm.trans h
    exact am_sub (lv' := [(0, .ref (z + 174)), (1, .int a1), (2, .int a2), (3, .int a3)]) [0, 1, 2, 3] rfl (cj_X10_does_J87 F hr a1 a2 a3 M  M1 h)
  · have h := (if_neg c43).symm.trans h
    refine am_aload_n F 0 dX10_does_71 rfl rfl ?_
    refine am_iload_n F 1 dX10_does_72 rfl rfl ?_
    obtain ⟨v39, M38, h37, h⟩ := am_bE h
    refine am_callVi F [.int a1] lyk_174 (by decide) rfl cw_X10_151 (c_X10_isInLift l D E z a1 M v39 M38 h37) yn_X10_isInLift rfl ⟨Nat.le_of_ble_eq_true rfl, Nat.le_of_ble_eq_true rfl⟩ rfl rfl (Nat.le_of_ble_eq_true rfl) ⟨Nat.zero_le _, Nat.zero_le _⟩ dX10_does_73 rfl ?_
    refine am_if_ne F (tgt := 87) dX10_does_76 (by decide) (fun c42 => ?_) (fun c42 => ?_)
    · have h := (if_neg c42).symm.trans h
      exact am_sub (lv' := [(0, .ref (z + 174)), (1, .int a1), (2, .int a2), (3, .int a3)]) [0, 1, 2, 3] rfl (cj_X10_does_J87 F hr a1 a2 a3 M38  M1 h)
    · have h := (if_pos c42).symm.trans h
      refine am_aload_n F 0 dX10_does_79 rfl rfl ?_
      refine am_iload_n F 1 dX10_does_80 rfl rfl ?_
      refine am_bipush F (v := (6 : Int32)) dX10_does_81 (by decide) ?_
      refine am_iconst F (v := (1 : Int32)) dX10_does_83 (by decide) ?_
      obtain ⟨_, M41, h40, h⟩ := am_bE h
      refine am_callVv F [.int a1, .int (6 : Int32), .int (1 : Int32)] lyk_174 (by decide) rfl cw_X10_232 (c_X10_adds l D E z a1 (6 : Int32) (1 : Int32) M38 M41 h40) yn_X10_adds rfl ⟨Nat.le_of_ble_eq_true rfl, Nat.le_of_ble_eq_true rfl⟩ rfl rfl (Nat.le_of_ble_eq_true rfl) ⟨Nat.zero_le _, Nat.zero_le _⟩ dX10_does_84 rfl ?_
      exact am_sub (lv' := [(0, .ref (z + 174)), (1, .int a1), (2, .int a2), (3, .int a3)]) [0, 1, 2, 3] rfl (cj_X10_does_J87 F hr a1 a2 a3 M41  M1 h)
def g_X10_does_J47 (a1 : Int32) (a2 : Int32) (a3 : Int32) (M : am_M) : Option (Unit × am_M) := (am_b (g_X10_isInLift a1 M) (fun v10 M9 => (if v10 = (0 : Int32) then (am_b (g_X10_costs a3 M9) (fun v46 M45 => (am_b (g_X10_adds a1 (1 : Int32) (-v46) M45) (fun _ M48 => (g_X10_does_J66 a1 a2 a3 M48))))) else (g_X10_does_J66 a1 a2 a3 M9))))
set_option maxHeartbeats 4000000 in
set_option maxRecDepth 100000 in
theorem cj_X10_does_J47 {l : Launch} {p : Program} {e : Env} {s : State} {m : MethodId} {args : Array Value} {below : List Frame} {meth : Method} {c : Code} {D : va_G} {E : Nat → ClassId} {z : Nat} (F : am_F p s m args meth c cX10_does 4 RX10 D E z) (hr : meth.sig.returnType = none) (a1 : Int32) (a2 : Int32) (a3 : Int32) (M : am_M)  (M1 : am_M) (h : g_X10_does_J47 a1 a2 a3 M = some ((), M1)) : am_W p l e rm_X10_does s m args below meth c (MQ below (va_Qv (fun (u : am_M) => u = M1) (am_BQ z E D) (fun q => z ≤ q)) args s 0 0 (fun q => z ≤ q)) 4 D E z 0 0 M 47 [(0, .ref (z + 174)), (1, .int a1), (2, .int a2), (3, .int a3)] [] := by
  unfold g_X10_does_J47 at h
  refine am_aload_n F 0 dX10_does_47 rfl rfl ?_
  refine am_iload_n F 1 dX10_does_48 rfl rfl ?_
  obtain ⟨v10, M9, h8, h⟩ := am_bE h
  refine am_callVi F [.int a1] lyk_174 (by decide) rfl cw_X10_151 (c_X10_isInLift l D E z a1 M v10 M9 h8) yn_X10_isInLift rfl ⟨Nat.le_of_ble_eq_true rfl, Nat.le_of_ble_eq_true rfl⟩ rfl rfl (Nat.le_of_ble_eq_true rfl) ⟨Nat.zero_le _, Nat.zero_le _⟩ dX10_does_49 rfl ?_
  refine am_if_ne F (tgt := 66) dX10_does_52 (by decide) (fun c49 => ?_) (fun c49 => ?_)
  · have h := (if_neg c49).symm.trans h
    exact am_sub (lv' := [(0, .ref (z + 174)), (1, .int a1), (2, .int a2), (3, .int a3)]) [0, 1, 2, 3] rfl (cj_X10_does_J66 F hr a1 a2 a3 M9  M1 h)
  · have h := (if_pos c49).symm.trans h
    refine am_aload_n F 0 dX10_does_55 rfl rfl ?_
    refine am_iload_n F 1 dX10_does_56 rfl rfl ?_
    refine am_iconst F (v := (1 : Int32)) dX10_does_57 (by decide) ?_
    refine am_iload_n F 3 dX10_does_58 rfl rfl ?_
    obtain ⟨v46, M45, h44, h⟩ := am_bE h
    refine am_callSi F [.int a3] cw_X10_101 rfl (c_X10_costs l D E z a3 M9 v46 M45 h44) yn_X10_costs rfl ⟨Nat.le_of_ble_eq_true rfl, Nat.le_of_ble_eq_true rfl⟩ rfl rfl (Nat.le_of_ble_eq_true rfl) ⟨Nat.zero_le _, Nat.zero_le _⟩ dX10_does_59 rfl ?_
    refine am_ineg F dX10_does_62 ?_
    obtain ⟨_, M48, h47, h⟩ := am_bE h
    refine am_callVv F [.int a1, .int (1 : Int32), .int (-v46)] lyk_174 (by decide) rfl cw_X10_232 (c_X10_adds l D E z a1 (1 : Int32) (-v46) M45 M48 h47) yn_X10_adds rfl ⟨Nat.le_of_ble_eq_true rfl, Nat.le_of_ble_eq_true rfl⟩ rfl rfl (Nat.le_of_ble_eq_true rfl) ⟨Nat.zero_le _, Nat.zero_le _⟩ dX10_does_63 rfl ?_
    exact am_sub (lv' := [(0, .ref (z + 174)), (1, .int a1), (2, .int a2), (3, .int a3)]) [0, 1, 2, 3] rfl (cj_X10_does_J66 F hr a1 a2 a3 M48  M1 h)
def g_X10_does_J22 (a1 : Int32) (as0 : Int32) (M : am_M) : Option (Unit × am_M) := (if as0 = (0 : Int32) then (am_b (g_X10_waits a1 M) (fun _ M51 => (g_X10_does_J47 a1 as0 (0 : Int32) M51))) else (am_b (g_X10_act a1 (0 : Int32) M) (fun v54 M53 => (if v54 = (0 : Int32) then (am_b (g_X10_waits a1 M53) (fun _ M56 => (g_X10_does_J47 a1 as0 v54 M56))) else (g_X10_does_J47 a1 as0 v54 M53)))))
set_option maxHeartbeats 4000000 in
set_option maxRecDepth 100000 in
theorem cj_X10_does_J22 {l : Launch} {p : Program} {e : Env} {s : State} {m : MethodId} {args : Array Value} {below : List Frame} {meth : Method} {c : Code} {D : va_G} {E : Nat → ClassId} {z : Nat} (F : am_F p s m args meth c cX10_does 4 RX10 D E z) (hr : meth.sig.returnType = none) (a1 : Int32) (as0 : Int32) (M : am_M)  (M1 : am_M) (h : g_X10_does_J22 a1 as0 M = some ((), M1)) : am_W p l e rm_X10_does s m args below meth c (MQ below (va_Qv (fun (u : am_M) => u = M1) (am_BQ z E D) (fun q => z ≤ q)) args s 0 0 (fun q => z ≤ q)) 4 D E z 0 0 M 22 [(0, .ref (z + 174)), (1, .int a1)] [.int as0] := by
  unfold g_X10_does_J22 at h
  refine am_istore_n F [(2, .int as0), (0, .ref (z + 174)), (1, .int a1)] dX10_does_22 rfl (by decide) rfl ?_
  refine am_iload_n F 0 dX10_does_23 rfl rfl ?_
  refine am_if_eq F (tgt := 36) dX10_does_24 (by decide) (fun c58 => ?_) (fun c58 => ?_)
  · have h := (if_pos c58).symm.trans h
    refine am_iconst F (v := (0 : Int32)) dX10_does_36 (by decide) ?_
    refine am_istore_n F [(3, .int (0 : Int32)), (2, .int as0), (0, .ref (z + 174)), (1, .int a1)] dX10_does_37 rfl (by decide) rfl ?_
    refine am_iload_n F 0 dX10_does_38 rfl rfl ?_
    refine am_if_ne F (tgt := 47) dX10_does_39 (by decide) (fun hc => absurd hc (by decide)) (fun _ => ?_)
    refine am_aload_n F 2 dX10_does_42 rfl rfl ?_
    refine am_iload_n F 3 dX10_does_43 rfl rfl ?_
    obtain ⟨_, M51, h50, h⟩ := am_bE h
    refine am_callVv F [.int a1] lyk_174 (by decide) rfl cw_X10_235 (c_X10_waits l D E z a1 M M51 h50) yn_X10_waits rfl ⟨Nat.le_of_ble_eq_true rfl, Nat.le_of_ble_eq_true rfl⟩ rfl rfl (Nat.le_of_ble_eq_true rfl) ⟨Nat.zero_le _, Nat.zero_le _⟩ dX10_does_44 rfl ?_
    exact am_sub (lv' := [(0, .ref (z + 174)), (1, .int a1), (2, .int as0), (3, .int (0 : Int32))]) [2, 3, 1, 0] rfl (cj_X10_does_J47 F hr a1 as0 (0 : Int32) M51  M1 h)
  · have h := (if_neg c58).symm.trans h
    refine am_aload_n F 1 dX10_does_27 rfl rfl ?_
    refine am_iload_n F 2 dX10_does_28 rfl rfl ?_
    refine am_iconst F (v := (0 : Int32)) dX10_does_29 (by decide) ?_
    obtain ⟨v54, M53, h52, h⟩ := am_bE h
    refine am_callVi F [.int a1, .int (0 : Int32)] lyk_174 (by decide) rfl cw_X10_65 (c_X10_act l D E z a1 (0 : Int32) M v54 M53 h52) yn_X10_act rfl ⟨Nat.le_of_ble_eq_true rfl, Nat.le_of_ble_eq_true rfl⟩ rfl rfl (Nat.le_of_ble_eq_true rfl) ⟨Nat.zero_le _, Nat.zero_le _⟩ dX10_does_30 rfl ?_
    refine am_goto F (tgt := 37) dX10_does_33 (by decide) ?_
    refine am_istore_n F [(3, .int v54), (2, .int as0), (0, .ref (z + 174)), (1, .int a1)] dX10_does_37 rfl (by decide) rfl ?_
    refine am_iload_n F 0 dX10_does_38 rfl rfl ?_
    refine am_if_ne F (tgt := 47) dX10_does_39 (by decide) (fun c57 => ?_) (fun c57 => ?_)
    · have h := (if_neg c57).symm.trans h
      exact am_sub (lv' := [(0, .ref (z + 174)), (1, .int a1), (2, .int as0), (3, .int v54)]) [2, 3, 1, 0] rfl (cj_X10_does_J47 F hr a1 as0 v54 M53  M1 h)
    · have h := (if_pos c57).symm.trans h
      refine am_aload_n F 2 dX10_does_42 rfl rfl ?_
      refine am_iload_n F 3 dX10_does_43 rfl rfl ?_
      obtain ⟨_, M56, h55, h⟩ := am_bE h
      refine am_callVv F [.int a1] lyk_174 (by decide) rfl cw_X10_235 (c_X10_waits l D E z a1 M53 M56 h55) yn_X10_waits rfl ⟨Nat.le_of_ble_eq_true rfl, Nat.le_of_ble_eq_true rfl⟩ rfl rfl (Nat.le_of_ble_eq_true rfl) ⟨Nat.zero_le _, Nat.zero_le _⟩ dX10_does_44 rfl ?_
      exact am_sub (lv' := [(0, .ref (z + 174)), (1, .int a1), (2, .int as0), (3, .int v54)]) [2, 3, 1, 0] rfl (cj_X10_does_J47 F hr a1 as0 v54 M56  M1 h)
def g_X10_does (a1 : Int32) (M : am_M) : Option (Unit × am_M) := (am_b (g_X10_adds a1 (10 : Int32) (1 : Int32) M) (fun _ M2 => (am_b (g_X10_of a1 (2 : Int32) M2) (fun v5 M4 => (if v5 ≤ (0 : Int32) then (g_X10_does_J22 a1 (0 : Int32) M4) else (g_X10_does_J22 a1 (1 : Int32) M4))))))
set_option maxHeartbeats 4000000 in
set_option maxRecDepth 100000 in
theorem c_X10_does (l : Launch) (D : va_G) (E : Nat → ClassId) (z : Nat) (a1 : Int32) (M : am_M)  (M1 : am_M) (h : g_X10_does a1 M = some ((), M1)) : am_Mv l yX10_does cX10_does 4 none rm_X10_does D E z [.ref (z + 174), .int a1] M M1 := by
  unfold g_X10_does at h
  refine am_of (own := RX10) (by decide +kernel) rfl (by exact Nat.le_of_ble_eq_true rfl) ?_
  intro p e s m args below meth c F hr
  show am_W p l e rm_X10_does s m args below meth c _ 4 D E z 0 0 M 0 [(0, .ref (z + 174)), (1, .int a1)] []
  refine am_aload_n F 0 dX10_does_0 rfl rfl ?_
  refine am_iload_n F 1 dX10_does_1 rfl rfl ?_
  refine am_bipush F (v := (10 : Int32)) dX10_does_2 (by decide) ?_
  refine am_iconst F (v := (1 : Int32)) dX10_does_4 (by decide) ?_
  obtain ⟨_, M2, h1, h⟩ := am_bE h
  refine am_callVv F [.int a1, .int (10 : Int32), .int (1 : Int32)] lyk_174 (by decide) rfl cw_X10_232 (c_X10_adds l D E z a1 (10 : Int32) (1 : Int32) M M2 h1) yn_X10_adds rfl ⟨Nat.le_of_ble_eq_true rfl, Nat.le_of_ble_eq_true rfl⟩ rfl rfl (Nat.le_of_ble_eq_true rfl) ⟨Nat.zero_le _, Nat.zero_le _⟩ dX10_does_5 rfl ?_
  refine am_aload_n F 0 dX10_does_8 rfl rfl ?_
  refine am_iload_n F 1 dX10_does_9 rfl rfl ?_
  refine am_iconst F (v := (2 : Int32)) dX10_does_10 (by decide) ?_
  obtain ⟨v5, M4, h3, h⟩ := am_bE h
  refine am_callVi F [.int a1, .int (2 : Int32)] lyk_174 (by decide) rfl cw_X10_58 (c_X10_of l D E z a1 (2 : Int32) M2 v5 M4 h3) yn_X10_of rfl ⟨Nat.le_of_ble_eq_true rfl, Nat.le_of_ble_eq_true rfl⟩ rfl rfl (Nat.le_of_ble_eq_true rfl) ⟨Nat.zero_le _, Nat.zero_le _⟩ dX10_does_11 rfl ?_
  refine am_if_le F (tgt := 21) dX10_does_14 (by decide) (fun c59 => ?_) (fun c59 => ?_)
  · have h := (if_pos c59).symm.trans h
    refine am_iconst F (v := (0 : Int32)) dX10_does_21 (by decide) ?_
    exact am_sub (lv' := [(0, .ref (z + 174)), (1, .int a1)]) [0, 1] rfl (cj_X10_does_J22 F hr a1 (0 : Int32) M4  M1 h)
  · have h := (if_neg c59).symm.trans h
    refine am_iconst F (v := (1 : Int32)) dX10_does_17 (by decide) ?_
    refine am_goto F (tgt := 22) dX10_does_18 (by decide) ?_
    exact am_sub (lv' := [(0, .ref (z + 174)), (1, .int a1)]) [0, 1] rfl (cj_X10_does_J22 F hr a1 (1 : Int32) M4  M1 h)
/-! AisleSchedulerModel.ends(I)Z -/
abbrev rm_X10_ends : Room := { frames := 2, cells := 0, slots := 0, locals := 47 }
theorem yn_X10_ends : am_yn yX10_ends 1 := ⟨⟨by decide +kernel, by decide +kernel⟩, by decide +kernel⟩
def g_X10_ends (a1 : Int32) (M : am_M) : Option (Int32 × am_M) := (am_b (g_X10_of a1 (4 : Int32) M) (fun v3 M2 => (if v3 = (-1 : Int32) then (some ((0 : Int32), M2)) else (am_b (g_X10_of a1 (2 : Int32) M2) (fun v6 M5 => (if v6 ≤ (0 : Int32) then (am_b (g_X10_set v3 (4 : Int32) (2 : Int32) M5) (fun _ M8 => (am_ci (0 : Int32) 406 (am_b (g_X10_set v3 (7 : Int32) (am_g M8 175 (0 : Int32).toNatClampNeg) M8) (fun _ M11 => (am_b (g_X10_put a1 (4 : Int32) (-1 : Int32) M11) (fun _ M13 => (am_b (g_X10_adds a1 (8 : Int32) (1 : Int32) M13) (fun _ M15 => (some ((1 : Int32), M15))))))))))) else (some ((0 : Int32), M5))))))))
set_option maxHeartbeats 4000000 in
set_option maxRecDepth 100000 in
theorem c_X10_ends (l : Launch) (D : va_G) (E : Nat → ClassId) (z : Nat) (a1 : Int32) (M : am_M) (r0 : Int32) (M1 : am_M) (h : g_X10_ends a1 M = some (r0, M1)) : am_Mi l yX10_ends cX10_ends 3 (some .boolean) rm_X10_ends D E z [.ref (z + 174), .int a1] M r0 M1 := by
  unfold g_X10_ends at h
  refine am_of (own := RX10) (by decide +kernel) rfl (by exact Nat.le_of_ble_eq_true rfl) ?_
  intro p e s m args below meth c F hr
  show am_W p l e rm_X10_ends s m args below meth c _ 3 D E z 0 0 M 0 [(0, .ref (z + 174)), (1, .int a1)] []
  refine am_aload_n F 0 dX10_ends_0 rfl rfl ?_
  refine am_iload_n F 1 dX10_ends_1 rfl rfl ?_
  refine am_iconst F (v := (4 : Int32)) dX10_ends_2 (by decide) ?_
  obtain ⟨v3, M2, h1, h⟩ := am_bE h
  refine am_callVi F [.int a1, .int (4 : Int32)] lyk_174 (by decide) rfl cw_X10_58 (c_X10_of l D E z a1 (4 : Int32) M v3 M2 h1) yn_X10_of rfl ⟨Nat.le_of_ble_eq_true rfl, Nat.le_of_ble_eq_true rfl⟩ rfl rfl (Nat.le_of_ble_eq_true rfl) ⟨Nat.zero_le _, Nat.zero_le _⟩ dX10_ends_3 rfl ?_
  refine am_istore_n F [(2, .int v3), (0, .ref (z + 174)), (1, .int a1)] dX10_ends_6 rfl (by decide) rfl ?_
  refine am_iload_n F 0 dX10_ends_7 rfl rfl ?_
  refine am_iconst F (v := (-1 : Int32)) dX10_ends_8 (by decide) ?_
  refine am_icmp_eq F (tgt := 21) dX10_ends_9 (by decide) (fun c17 => ?_) (fun c17 => ?_)
  · have h := (if_pos c17).symm.trans h
    refine am_iconst F (v := (0 : Int32)) dX10_ends_21 (by decide) ?_
    exact am_zret F hr (by decide) h dX10_ends_22
  · have h := (if_neg c17).symm.trans h
    refine am_aload_n F 1 dX10_ends_12 rfl rfl ?_
    refine am_iload_n F 2 dX10_ends_13 rfl rfl ?_
    refine am_iconst F (v := (2 : Int32)) dX10_ends_14 (by decide) ?_
    obtain ⟨v6, M5, h4, h⟩ := am_bE h
    refine am_callVi F [.int a1, .int (2 : Int32)] lyk_174 (by decide) rfl cw_X10_58 (c_X10_of l D E z a1 (2 : Int32) M2 v6 M5 h4) yn_X10_of rfl ⟨Nat.le_of_ble_eq_true rfl, Nat.le_of_ble_eq_true rfl⟩ rfl rfl (Nat.le_of_ble_eq_true rfl) ⟨Nat.zero_le _, Nat.zero_le _⟩ dX10_ends_15 rfl ?_
    refine am_if_le F (tgt := 23) dX10_ends_18 (by decide) (fun c16 => ?_) (fun c16 => ?_)
    · have h := (if_pos c16).symm.trans h
      refine am_aload_n F 1 dX10_ends_23 rfl rfl ?_
      refine am_iload_n F 0 dX10_ends_24 rfl rfl ?_
      refine am_iconst F (v := (4 : Int32)) dX10_ends_25 (by decide) ?_
      refine am_iconst F (v := (2 : Int32)) dX10_ends_26 (by decide) ?_
      obtain ⟨_, M8, h7, h⟩ := am_bE h
      refine am_callVv F [.int v3, .int (4 : Int32), .int (2 : Int32)] lyk_174 (by decide) rfl cw_X10_142 (c_X10_set l D E z v3 (4 : Int32) (2 : Int32) M5 M8 h7) yn_X10_set rfl ⟨Nat.le_of_ble_eq_true rfl, Nat.le_of_ble_eq_true rfl⟩ rfl rfl (Nat.le_of_ble_eq_true rfl) ⟨Nat.zero_le _, Nat.zero_le _⟩ dX10_ends_27 rfl ?_
      refine am_aload_n F 1 dX10_ends_30 rfl rfl ?_
      refine am_iload_n F 0 dX10_ends_31 rfl rfl ?_
      refine am_bipush F (v := (7 : Int32)) dX10_ends_32 (by decide) ?_
      refine am_aload_n F 1 dX10_ends_34 rfl rfl ?_
      refine gf_X10_7 F lyk_174 dX10_ends_35 ?_
      refine am_iconst F (v := (0 : Int32)) dX10_ends_38 (by decide) ?_
      obtain ⟨q9, h⟩ := am_ciE h
      refine am_iald F lyk_175 q9 dX10_ends_39 ?_
      obtain ⟨_, M11, h10, h⟩ := am_bE h
      refine am_callVv F [.int v3, .int (7 : Int32), .int (am_g M8 175 (0 : Int32).toNatClampNeg)] lyk_174 (by decide) rfl cw_X10_142 (c_X10_set l D E z v3 (7 : Int32) (am_g M8 175 (0 : Int32).toNatClampNeg) M8 M11 h10) yn_X10_set rfl ⟨Nat.le_of_ble_eq_true rfl, Nat.le_of_ble_eq_true rfl⟩ rfl rfl (Nat.le_of_ble_eq_true rfl) ⟨Nat.zero_le _, Nat.zero_le _⟩ dX10_ends_40 rfl ?_
      refine am_aload_n F 1 dX10_ends_43 rfl rfl ?_
      refine am_iload_n F 2 dX10_ends_44 rfl rfl ?_
      refine am_iconst F (v := (4 : Int32)) dX10_ends_45 (by decide) ?_
      refine am_iconst F (v := (-1 : Int32)) dX10_ends_46 (by decide) ?_
      obtain ⟨_, M13, h12, h⟩ := am_bE h
      refine am_callVv F [.int a1, .int (4 : Int32), .int (-1 : Int32)] lyk_174 (by decide) rfl cw_X10_145 (c_X10_put l D E z a1 (4 : Int32) (-1 : Int32) M11 M13 h12) yn_X10_put rfl ⟨Nat.le_of_ble_eq_true rfl, Nat.le_of_ble_eq_true rfl⟩ rfl rfl (Nat.le_of_ble_eq_true rfl) ⟨Nat.zero_le _, Nat.zero_le _⟩ dX10_ends_47 rfl ?_
      refine am_aload_n F 1 dX10_ends_50 rfl rfl ?_
      refine am_iload_n F 2 dX10_ends_51 rfl rfl ?_
      refine am_bipush F (v := (8 : Int32)) dX10_ends_52 (by decide) ?_
      refine am_iconst F (v := (1 : Int32)) dX10_ends_54 (by decide) ?_
      obtain ⟨_, M15, h14, h⟩ := am_bE h
      refine am_callVv F [.int a1, .int (8 : Int32), .int (1 : Int32)] lyk_174 (by decide) rfl cw_X10_232 (c_X10_adds l D E z a1 (8 : Int32) (1 : Int32) M13 M15 h14) yn_X10_adds rfl ⟨Nat.le_of_ble_eq_true rfl, Nat.le_of_ble_eq_true rfl⟩ rfl rfl (Nat.le_of_ble_eq_true rfl) ⟨Nat.zero_le _, Nat.zero_le _⟩ dX10_ends_55 rfl ?_
      refine am_iconst F (v := (1 : Int32)) dX10_ends_58 (by decide) ?_
      exact am_zret F hr (by decide) h dX10_ends_59
    · have h := (if_neg c16).symm.trans h
      refine am_iconst F (v := (0 : Int32)) dX10_ends_21 (by decide) ?_
      exact am_zret F hr (by decide) h dX10_ends_22
