/-! printed by wip/whole/drive.py -/
/-! AisleScheduler$Planner.adopt(II)V -/
abbrev rm_X3_adopt : Room := { frames := 3, cells := 0, slots := 0, locals := 68 }
theorem yn_X3_adopt : am_yn yX3_adopt 2 := ⟨⟨by decide +kernel, by decide +kernel⟩, by decide +kernel⟩
def g_X3_adopt (a1 : Int32) (a2 : Int32) (M : am_M) : Option (Unit × am_M) := (am_b (g_X8_robotOf 1 a1 M) (fun v3 M2 => (am_b (g_X8_reopenTaskOf 1 v3 M2) (fun _ M5 => (am_b (g_X2_copyFrom (v3 + 1) 158 M5) (fun _ M7 => (some ((), (am_s M7 v3 3 a2)))))))))
set_option maxHeartbeats 4000000 in
set_option maxRecDepth 100000 in
theorem c_X3_adopt (l : Launch) (D : va_G) (E : Nat → ClassId) (z : Nat) (a1 : Int32) (a2 : Int32) (M : am_M)  (M1 : am_M) (h : g_X3_adopt a1 a2 M = some ((), M1)) : am_Mv l yX3_adopt cX3_adopt 4 none rm_X3_adopt D E z [.ref (z + 157), .int a1, .int a2] M M1 := by
  unfold g_X3_adopt at h
  refine am_of (own := RX3) (by decide +kernel) rfl (by exact Nat.le_of_ble_eq_true rfl) ?_
  intro p e s m args below meth c F hr
  show am_W p l e rm_X3_adopt s m args below meth c _ 4 D E z 0 0 M 0 [(0, .ref (z + 157)), (1, .int a1), (2, .int a2)] []
  refine am_aload_n F 0 dX3_adopt_0 rfl rfl ?_
  refine gf_X3_18 F lyk_157 dX3_adopt_1 ?_
  refine am_iload_n F 1 dX3_adopt_4 rfl rfl ?_
  obtain ⟨v3, M2, h1, h⟩ := am_bE h
  refine am_callVr F [.int a1] lyk_1 (by decide) rfl cw_X3_53 (c_X8_robotOf l D E z 1 lyk_1 a1 M v3 M2 h1) yn_X8_robotOf rfl ⟨Nat.le_of_ble_eq_true rfl, Nat.le_of_ble_eq_true rfl⟩ rfl rfl (Nat.le_of_ble_eq_true rfl) ⟨Nat.zero_le _, Nat.zero_le _⟩ dX3_adopt_5 rfl ?_
  refine am_astore_n F [(3, .ref (z + v3)), (0, .ref (z + 157)), (1, .int a1), (2, .int a2)] dX3_adopt_8 rfl (by decide) rfl ?_
  refine am_aload_n F 1 dX3_adopt_9 rfl rfl ?_
  refine gf_X3_18 F lyk_157 dX3_adopt_10 ?_
  refine am_aload_n F 0 dX3_adopt_13 rfl rfl ?_
  obtain ⟨_, M5, h4, h⟩ := am_bE h
  refine am_callVv F [.ref (z + v3)] lyk_1 (by decide) rfl cw_X3_70 (c_X8_reopenTaskOf l D E z 1 lyk_1 v3 (q_X8_robotOf 1 lyk_1 a1 M v3 M2 h1) M2 M5 h4) yn_X8_reopenTaskOf rfl ⟨Nat.le_of_ble_eq_true rfl, Nat.le_of_ble_eq_true rfl⟩ rfl rfl (Nat.le_of_ble_eq_true rfl) ⟨Nat.zero_le _, Nat.zero_le _⟩ dX3_adopt_14 rfl ?_
  refine am_aload_n F 0 dX3_adopt_17 rfl rfl ?_
  refine gf_X3_74 F (q_X8_robotOf 1 lyk_1 a1 M v3 M2 h1) dX3_adopt_18 ?_
  refine am_aload_n F 1 dX3_adopt_21 rfl rfl ?_
  refine gf_X3_12 F lyk_157 dX3_adopt_22 ?_
  obtain ⟨_, M7, h6, h⟩ := am_bE h
  refine am_callVv F [.ref (z + 158)] (lyf_4_plan (q_X8_robotOf 1 lyk_1 a1 M v3 M2 h1)) (by decide) rfl cw_X3_77 (c_X2_copyFrom l D E z (v3 + 1) (lyf_4_plan (q_X8_robotOf 1 lyk_1 a1 M v3 M2 h1)) 158 lyk_158 M5 M7 h6) yn_X2_copyFrom rfl ⟨Nat.le_of_ble_eq_true rfl, Nat.le_of_ble_eq_true rfl⟩ rfl rfl (Nat.le_of_ble_eq_true rfl) ⟨Nat.zero_le _, Nat.zero_le _⟩ dX3_adopt_25 rfl ?_
  refine am_aload_n F 0 dX3_adopt_28 rfl rfl ?_
  refine am_iload_n F 3 dX3_adopt_29 rfl rfl ?_
  refine pf_X3_81 F (q_X8_robotOf 1 lyk_1 a1 M v3 M2 h1) dX3_adopt_30 ?_
  exact am_vret F hr h dX3_adopt_33
/-! AisleScheduler$Planner.blockersOf(II)I -/
abbrev rm_X3_blockersOf : Room := { frames := 6, cells := 0, slots := 0, locals := 143 }
theorem yn_X3_blockersOf : am_yn yX3_blockersOf 2 := ⟨⟨by decide +kernel, by decide +kernel⟩, by decide +kernel⟩
def g_X3_blockersOf_L17 (a1 : Int32) (a2 : Int32) : Nat → Int32 → Int32 → am_M → Option ((Int32) × am_M)
  | 0, _, _, _ => none
  | n + 1, a3, a4, M => (if (am_g M 1 2) ≤ a4 then (some (a3, M)) else (if a4 = a1 then (g_X3_blockersOf_L17 a1 a2 n a3 (a4 + (1 : Int32)) M) else (am_b (g_X3_hasFinalWithout a4 a1 a2 M) (fun v6 M5 => (if v6 = (0 : Int32) then (g_X3_blockersOf_L17 a1 a2 n a3 (a4 + (1 : Int32)) M5) else (g_X3_blockersOf_L17 a1 a2 n (a3 ||| ((1 : Int32) <<< (a4 &&& 31))) (a4 + (1 : Int32)) M5))))))
set_option maxHeartbeats 4000000 in
set_option maxRecDepth 100000 in
theorem cl_X3_blockersOf_L17 {l : Launch} {p : Program} {e : Env} {s : State} {m : MethodId} {args : Array Value} {below : List Frame} {meth : Method} {c : Code} {Q : State → Prop} {D : va_G} {E : Nat → ClassId} {z : Nat} (F : am_F p s m args meth c cX3_blockersOf 5 RX3 D E z) (a1 : Int32) (a2 : Int32) : ∀ (n : Nat) (a3 : Int32) (a4 : Int32) (M : am_M) (x : Int32) (M1 : am_M), g_X3_blockersOf_L17 a1 a2 n a3 a4 M = some (x, M1) → (am_W p l e rm_X3_blockersOf s m args below meth c Q 5 D E z 0 0 M1 59 [(3, .int x)] []) → am_W p l e rm_X3_blockersOf s m args below meth c Q 5 D E z 0 0 M 17 [(0, .ref (z + 157)), (1, .int a1), (2, .int a2), (3, .int a3), (4, .int a4)] [] := by
  intro n
  induction n with
  | zero => intro a3 a4 M x M1 h K; cases h
  | succ n ih =>
    intro a3 a4 M x M1 h K
    rw [g_X3_blockersOf_L17] at h
    refine am_iload F 4 dX3_blockersOf_17 rfl ?_
    refine am_aload_n F 0 dX3_blockersOf_19 rfl rfl ?_
    refine gf_X3_18 F lyk_157 dX3_blockersOf_20 ?_
    refine gf_X3_88 F lyk_1 dX3_blockersOf_23 ?_
    refine am_icmp_ge F (tgt := 59) dX3_blockersOf_26 (by decide) (fun c9 => ?_) (fun c9 => ?_)
    · have h := (if_pos c9).symm.trans h
      cases h
      exact am_sub (lv' := [(3, .int a3)]) [3] rfl (K)
    · have h := (if_neg c9).symm.trans h
      refine am_iload F 4 dX3_blockersOf_29 rfl ?_
      refine am_iload_n F 1 dX3_blockersOf_31 rfl rfl ?_
      refine am_icmp_eq F (tgt := 53) dX3_blockersOf_32 (by decide) (fun c8 => ?_) (fun c8 => ?_)
      · have h := (if_pos c8).symm.trans h
        refine am_iinc F [(4, .int (a4 + (1 : Int32))), (0, .ref (z + 157)), (1, .int a1), (2, .int a2), (3, .int a3)] 4 dX3_blockersOf_53 (by decide) rfl rfl rfl ?_
        refine am_goto F (tgt := 17) dX3_blockersOf_56 (by decide) ?_
        exact am_sub (lv' := [(0, .ref (z + 157)), (1, .int a1), (2, .int a2), (3, .int a3), (4, .int (a4 + (1 : Int32)))]) [1, 2, 3, 4, 0] rfl (ih a3 (a4 + (1 : Int32)) M _ _ h K)
      · have h := (if_neg c8).symm.trans h
        refine am_aload_n F 0 dX3_blockersOf_35 rfl rfl ?_
        refine am_iload F 4 dX3_blockersOf_36 rfl ?_
        refine am_iload_n F 1 dX3_blockersOf_38 rfl rfl ?_
        refine am_iload_n F 2 dX3_blockersOf_39 rfl rfl ?_
        obtain ⟨v6, M5, h4, h⟩ := am_bE h
        refine am_callVi F [.int a4, .int a1, .int a2] lyk_157 (by decide) rfl cw_X3_84 (c_X3_hasFinalWithout l D E z a4 a1 a2 M v6 M5 h4) yn_X3_hasFinalWithout rfl ⟨Nat.le_of_ble_eq_true rfl, Nat.le_of_ble_eq_true rfl⟩ rfl rfl (Nat.le_of_ble_eq_true rfl) ⟨Nat.zero_le _, Nat.zero_le _⟩ dX3_blockersOf_40 rfl ?_
        refine am_if_eq F (tgt := 53) dX3_blockersOf_43 (by decide) (fun c7 => ?_) (fun c7 => ?_)
        · have h := (if_pos c7).symm.trans h
          refine am_iinc F [(4, .int (a4 + (1 : Int32))), (0, .ref (z + 157)), (1, .int a1), (2, .int a2), (3, .int a3)] 4 dX3_blockersOf_53 (by decide) rfl rfl rfl ?_
          refine am_goto F (tgt := 17) dX3_blockersOf_56 (by decide) ?_
          exact am_sub (lv' := [(0, .ref (z + 157)), (1, .int a1), (2, .int a2), (3, .int a3), (4, .int (a4 + (1 : Int32)))]) [1, 2, 3, 4, 0] rfl (ih a3 (a4 + (1 : Int32)) M5 _ _ h K)
        · have h := (if_neg c7).symm.trans h
          refine am_iload_n F 3 dX3_blockersOf_46 rfl rfl ?_
          refine am_iconst F (v := (1 : Int32)) dX3_blockersOf_47 (by decide) ?_
          refine am_iload F 4 dX3_blockersOf_48 rfl ?_
          refine am_ishl F dX3_blockersOf_50 ?_
          refine am_ior F dX3_blockersOf_51 ?_
          refine am_istore_n F [(3, .int (a3 ||| ((1 : Int32) <<< (a4 &&& 31)))), (0, .ref (z + 157)), (1, .int a1), (2, .int a2), (4, .int a4)] dX3_blockersOf_52 rfl (by decide) rfl ?_
          refine am_iinc F [(4, .int (a4 + (1 : Int32))), (3, .int (a3 ||| ((1 : Int32) <<< (a4 &&& 31)))), (0, .ref (z + 157)), (1, .int a1), (2, .int a2)] 4 dX3_blockersOf_53 (by decide) rfl rfl rfl ?_
          refine am_goto F (tgt := 17) dX3_blockersOf_56 (by decide) ?_
          exact am_sub (lv' := [(0, .ref (z + 157)), (1, .int a1), (2, .int a2), (3, .int (a3 ||| ((1 : Int32) <<< (a4 &&& 31)))), (4, .int (a4 + (1 : Int32)))]) [2, 3, 4, 1, 0] rfl (ih (a3 ||| ((1 : Int32) <<< (a4 &&& 31))) (a4 + (1 : Int32)) M5 _ _ h K)
def g_X3_blockersOf (a1 : Int32) (a2 : Int32) (M : am_M) : Option (Int32 × am_M) := (am_b (g_X3_hasFinalWithout (-1 : Int32) a1 a2 M) (fun v3 M2 => (if v3 = (0 : Int32) then (am_b (g_X3_blockersOf_L17 a1 a2 am_fu (0 : Int32) (0 : Int32) M2) (fun x10 M11 => (some (x10, M11)))) else (some ((0 : Int32), M2)))))
set_option maxHeartbeats 4000000 in
set_option maxRecDepth 100000 in
theorem c_X3_blockersOf (l : Launch) (D : va_G) (E : Nat → ClassId) (z : Nat) (a1 : Int32) (a2 : Int32) (M : am_M) (r0 : Int32) (M1 : am_M) (h : g_X3_blockersOf a1 a2 M = some (r0, M1)) : am_Mi l yX3_blockersOf cX3_blockersOf 5 (some .int) rm_X3_blockersOf D E z [.ref (z + 157), .int a1, .int a2] M r0 M1 := by
  unfold g_X3_blockersOf at h
  refine am_of (own := RX3) (by decide +kernel) rfl (by exact Nat.le_of_ble_eq_true rfl) ?_
  intro p e s m args below meth c F hr
  show am_W p l e rm_X3_blockersOf s m args below meth c _ 5 D E z 0 0 M 0 [(0, .ref (z + 157)), (1, .int a1), (2, .int a2)] []
  refine am_iconst F (v := (0 : Int32)) dX3_blockersOf_0 (by decide) ?_
  refine am_istore_n F [(3, .int (0 : Int32)), (0, .ref (z + 157)), (1, .int a1), (2, .int a2)] dX3_blockersOf_1 rfl (by decide) rfl ?_
  refine am_aload_n F 1 dX3_blockersOf_2 rfl rfl ?_
  refine am_iconst F (v := (-1 : Int32)) dX3_blockersOf_3 (by decide) ?_
  refine am_iload_n F 2 dX3_blockersOf_4 rfl rfl ?_
  refine am_iload_n F 3 dX3_blockersOf_5 rfl rfl ?_
  obtain ⟨v3, M2, h1, h⟩ := am_bE h
  refine am_callVi F [.int (-1 : Int32), .int a1, .int a2] lyk_157 (by decide) rfl cw_X3_84 (c_X3_hasFinalWithout l D E z (-1 : Int32) a1 a2 M v3 M2 h1) yn_X3_hasFinalWithout rfl ⟨Nat.le_of_ble_eq_true rfl, Nat.le_of_ble_eq_true rfl⟩ rfl rfl (Nat.le_of_ble_eq_true rfl) ⟨Nat.zero_le _, Nat.zero_le _⟩ dX3_blockersOf_6 rfl ?_
  refine am_if_eq F (tgt := 14) dX3_blockersOf_9 (by decide) (fun c13 => ?_) (fun c13 => ?_)
  · have h := (if_pos c13).symm.trans h
    refine am_iconst F (v := (0 : Int32)) dX3_blockersOf_14 (by decide) ?_
    refine am_istore F [(4, .int (0 : Int32)), (3, .int (0 : Int32)), (0, .ref (z + 157)), (1, .int a1), (2, .int a2)] dX3_blockersOf_15 (by decide) rfl ?_
    obtain ⟨x10, M11, h12, h⟩ := am_bE h
    refine am_sub (lv' := [(0, .ref (z + 157)), (1, .int a1), (2, .int a2), (3, .int (0 : Int32)), (4, .int (0 : Int32))]) [2, 3, 4, 1, 0] rfl (cl_X3_blockersOf_L17 F a1 a2 am_fu (0 : Int32) (0 : Int32) M2 x10 M11 h12 ?_)
    refine am_iload_n F 0 dX3_blockersOf_59 rfl rfl ?_
    exact am_iret F hr h dX3_blockersOf_60
  · have h := (if_neg c13).symm.trans h
    refine am_iload_n F 0 dX3_blockersOf_12 rfl rfl ?_
    exact am_iret F hr h dX3_blockersOf_13
/-! AisleScheduler$World.isIdle(I)Z -/
abbrev rm_X8_isIdle : Room := { frames := 2, cells := 0, slots := 0, locals := 46 }
theorem yn_X8_isIdle : am_yn yX8_isIdle 1 := ⟨⟨by decide +kernel, by decide +kernel⟩, by decide +kernel⟩
def g_X8_isIdle (t0 : Nat) (a1 : Int32) (M : am_M) : Option (Int32 × am_M) := (am_b (g_X8_robotOf t0 a1 M) (fun v3 M2 => (am_b (g_X2_ticksLeft (v3 + 1) (am_g M2 t0 4) M2) (fun v6 M5 => (if v6 = (0 : Int32) then (some ((1 : Int32), M5)) else (some ((0 : Int32), M5)))))))
set_option maxHeartbeats 4000000 in
set_option maxRecDepth 100000 in
theorem c_X8_isIdle (l : Launch) (D : va_G) (E : Nat → ClassId) (z : Nat) (t0 : Nat) (y0 : am_ly t0 = (8, 0)) (a1 : Int32) (M : am_M) (r0 : Int32) (M1 : am_M) (h : g_X8_isIdle t0 a1 M = some (r0, M1)) : am_Mi l yX8_isIdle cX8_isIdle 2 (some .boolean) rm_X8_isIdle D E z [.ref (z + t0), .int a1] M r0 M1 := by
  unfold g_X8_isIdle at h
  refine am_of (own := RX8) (by decide +kernel) rfl (by exact Nat.le_of_ble_eq_true rfl) ?_
  intro p e s m args below meth c F hr
  show am_W p l e rm_X8_isIdle s m args below meth c _ 2 D E z 0 0 M 0 [(0, .ref (z + t0)), (1, .int a1)] []
  refine am_aload_n F 0 dX8_isIdle_0 rfl rfl ?_
  refine am_iload_n F 1 dX8_isIdle_1 rfl rfl ?_
  obtain ⟨v3, M2, h1, h⟩ := am_bE h
  refine am_callVr F [.int a1] y0 (by decide) rfl cw_X8_69 (c_X8_robotOf l D E z t0 y0 a1 M v3 M2 h1) yn_X8_robotOf rfl ⟨Nat.le_of_ble_eq_true rfl, Nat.le_of_ble_eq_true rfl⟩ rfl rfl (Nat.le_of_ble_eq_true rfl) ⟨Nat.zero_le _, Nat.zero_le _⟩ dX8_isIdle_2 rfl ?_
  refine gf_X8_83 F (q_X8_robotOf t0 y0 a1 M v3 M2 h1) dX8_isIdle_5 ?_
  refine am_aload_n F 0 dX8_isIdle_8 rfl rfl ?_
  refine gf_X8_58 F y0 dX8_isIdle_9 ?_
  obtain ⟨v6, M5, h4, h⟩ := am_bE h
  refine am_callVi F [.int (am_g M2 t0 4)] (lyf_4_plan (q_X8_robotOf t0 y0 a1 M v3 M2 h1)) (by decide) rfl cw_X8_87 (c_X2_ticksLeft l D E z (v3 + 1) (lyf_4_plan (q_X8_robotOf t0 y0 a1 M v3 M2 h1)) (am_g M2 t0 4) M2 v6 M5 h4) yn_X2_ticksLeft rfl ⟨Nat.le_of_ble_eq_true rfl, Nat.le_of_ble_eq_true rfl⟩ rfl rfl (Nat.le_of_ble_eq_true rfl) ⟨Nat.zero_le _, Nat.zero_le _⟩ dX8_isIdle_12 rfl ?_
  refine am_if_ne F (tgt := 22) dX8_isIdle_15 (by decide) (fun c7 => ?_) (fun c7 => ?_)
  · have h := (if_neg c7).symm.trans h
    refine am_iconst F (v := (0 : Int32)) dX8_isIdle_22 (by decide) ?_
    exact am_zret F hr (by decide) h dX8_isIdle_23
  · have h := (if_pos c7).symm.trans h
    refine am_iconst F (v := (1 : Int32)) dX8_isIdle_18 (by decide) ?_
    refine am_goto F (tgt := 23) dX8_isIdle_19 (by decide) ?_
    exact am_zret F hr (by decide) h dX8_isIdle_23
/-! AisleScheduler$Planner.moveAside(II)I -/
abbrev rm_X3_moveAside : Room := { frames := 7, cells := 0, slots := 0, locals := 177 }
theorem yn_X3_moveAside : am_yn yX3_moveAside 2 := ⟨⟨by decide +kernel, by decide +kernel⟩, by decide +kernel⟩
def g_X3_moveAside_L49 (a1 : Int32) (a2 : Int32) (a3 : Int32) (a4 : Int32) : Nat → Int32 → am_M → Option ((Nat) × am_M)
  | 0, _, _ => none
  | n + 1, a5, M => (if a4 = (0 : Int32) then (some (146, M)) else (if (40 : Int32) ≤ a5 then (some (146, M)) else (am_b (g_X3_isPlannable a3 a5 M) (fun v3 M2 => (if v3 = (0 : Int32) then (g_X3_moveAside_L49 a1 a2 a3 a4 n (a5 + (1 : Int32)) M2) else (am_b (g_X8_robotOf 1 a3 M2) (fun v6 M5 => (am_b (g_X2_placeAt (v6 + 1) (am_g M5 1 4) M5) (fun v9 M8 => (am_b (g_X3_adopt a3 (-1 : Int32) M8) (fun _ M11 => (am_b (g_X3_isPlannable a1 a2 M11) (fun v14 M13 => (if v14 = (0 : Int32) then (am_b (g_X8_robotOf 1 a3 M13) (fun v17 M16 => (am_b (g_X2_restAt (v17 + 1) v9 (am_g M16 1 4) M16) (fun _ M19 => (g_X3_moveAside_L49 a1 a2 a3 a4 n (a5 + (1 : Int32)) M19))))) else (some (109, M13))))))))))))))))
set_option maxHeartbeats 4000000 in
set_option maxRecDepth 100000 in
theorem cl_X3_moveAside_L49 {l : Launch} {p : Program} {e : Env} {s : State} {m : MethodId} {args : Array Value} {below : List Frame} {meth : Method} {c : Code} {Q : State → Prop} {D : va_G} {E : Nat → ClassId} {z : Nat} (F : am_F p s m args meth c cX3_moveAside 7 RX3 D E z) (a1 : Int32) (a2 : Int32) (a3 : Int32) (a4 : Int32) : ∀ (n : Nat) (a5 : Int32) (M : am_M) (x : Nat) (M1 : am_M), g_X3_moveAside_L49 a1 a2 a3 a4 n a5 M = some (x, M1) → ((x = 109 → am_W p l e rm_X3_moveAside s m args below meth c Q 7 D E z 0 0 M1 109 [(0, .ref (z + 157)), (1, .int a1), (3, .int a3)] []) ∧ (x = 146 → am_W p l e rm_X3_moveAside s m args below meth c Q 7 D E z 0 0 M1 146 [(0, .ref (z + 157)), (1, .int a1), (2, .int a2), (3, .int a3)] [])) → am_W p l e rm_X3_moveAside s m args below meth c Q 7 D E z 0 0 M 49 [(0, .ref (z + 157)), (1, .int a1), (2, .int a2), (3, .int a3), (4, .int a4), (5, .int a5)] [] := by
  intro n
  induction n with
  | zero => intro a5 M x M1 h K; cases h
  | succ n ih =>
    intro a5 M x M1 h K
    rw [g_X3_moveAside_L49] at h
    refine am_iload F 4 dX3_moveAside_49 rfl ?_
    refine am_if_eq F (tgt := 146) dX3_moveAside_51 (by decide) (fun c23 => ?_) (fun c23 => ?_)
    · have h := (if_pos c23).symm.trans h
      cases h
      exact am_sub (lv' := [(0, .ref (z + 157)), (1, .int a1), (2, .int a2), (3, .int a3)]) [0, 1, 2, 3] rfl (K.2 rfl)
    · have h := (if_neg c23).symm.trans h
      refine am_iload F 5 dX3_moveAside_54 rfl ?_
      refine am_bipush F (v := (40 : Int32)) dX3_moveAside_56 (by decide) ?_
      refine am_icmp_ge F (tgt := 146) dX3_moveAside_58 (by decide) (fun c22 => ?_) (fun c22 => ?_)
      · have h := (if_pos c22).symm.trans h
        cases h
        exact am_sub (lv' := [(0, .ref (z + 157)), (1, .int a1), (2, .int a2), (3, .int a3)]) [0, 1, 2, 3] rfl (K.2 rfl)
      · have h := (if_neg c22).symm.trans h
        refine am_aload_n F 0 dX3_moveAside_61 rfl rfl ?_
        refine am_iload_n F 3 dX3_moveAside_62 rfl rfl ?_
        refine am_iload F 5 dX3_moveAside_63 rfl ?_
        obtain ⟨v3, M2, h1, h⟩ := am_bE h
        refine am_callVi F [.int a3, .int a5] lyk_157 (by decide) rfl cw_X3_94 (c_X3_isPlannable l D E z a3 a5 M v3 M2 h1) yn_X3_isPlannable rfl ⟨Nat.le_of_ble_eq_true rfl, Nat.le_of_ble_eq_true rfl⟩ rfl rfl (Nat.le_of_ble_eq_true rfl) ⟨Nat.zero_le _, Nat.zero_le _⟩ dX3_moveAside_65 rfl ?_
        refine am_if_eq F (tgt := 140) dX3_moveAside_68 (by decide) (fun c21 => ?_) (fun c21 => ?_)
        · have h := (if_pos c21).symm.trans h
          refine am_iinc F [(5, .int (a5 + (1 : Int32))), (0, .ref (z + 157)), (1, .int a1), (2, .int a2), (3, .int a3), (4, .int a4)] 5 dX3_moveAside_140 (by decide) rfl rfl rfl ?_
          refine am_goto F (tgt := 49) dX3_moveAside_143 (by decide) ?_
          exact am_sub (lv' := [(0, .ref (z + 157)), (1, .int a1), (2, .int a2), (3, .int a3), (4, .int a4), (5, .int (a5 + (1 : Int32)))]) [1, 2, 3, 4, 5, 0] rfl (ih (a5 + (1 : Int32)) M2 _ _ h K)
        · have h := (if_neg c21).symm.trans h
          refine am_aload_n F 0 dX3_moveAside_71 rfl rfl ?_
          refine gf_X3_18 F lyk_157 dX3_moveAside_72 ?_
          refine am_iload_n F 3 dX3_moveAside_75 rfl rfl ?_
          obtain ⟨v6, M5, h4, h⟩ := am_bE h
          refine am_callVr F [.int a3] lyk_1 (by decide) rfl cw_X3_53 (c_X8_robotOf l D E z 1 lyk_1 a3 M2 v6 M5 h4) yn_X8_robotOf rfl ⟨Nat.le_of_ble_eq_true rfl, Nat.le_of_ble_eq_true rfl⟩ rfl rfl (Nat.le_of_ble_eq_true rfl) ⟨Nat.zero_le _, Nat.zero_le _⟩ dX3_moveAside_76 rfl ?_
          refine gf_X3_74 F (q_X8_robotOf 1 lyk_1 a3 M2 v6 M5 h4) dX3_moveAside_79 ?_
          refine am_aload_n F 0 dX3_moveAside_82 rfl rfl ?_
          refine gf_X3_18 F lyk_157 dX3_moveAside_83 ?_
          refine gf_X3_97 F lyk_1 dX3_moveAside_86 ?_
          obtain ⟨v9, M8, h7, h⟩ := am_bE h
          refine am_callVi F [.int (am_g M5 1 4)] (lyf_4_plan (q_X8_robotOf 1 lyk_1 a3 M2 v6 M5 h4)) (by decide) rfl cw_X3_100 (c_X2_placeAt l D E z (v6 + 1) (lyf_4_plan (q_X8_robotOf 1 lyk_1 a3 M2 v6 M5 h4)) (am_g M5 1 4) M5 v9 M8 h7) yn_X2_placeAt rfl ⟨Nat.le_of_ble_eq_true rfl, Nat.le_of_ble_eq_true rfl⟩ rfl rfl (Nat.le_of_ble_eq_true rfl) ⟨Nat.zero_le _, Nat.zero_le _⟩ dX3_moveAside_89 rfl ?_
          refine am_istore F [(6, .int v9), (0, .ref (z + 157)), (1, .int a1), (2, .int a2), (3, .int a3), (4, .int a4), (5, .int a5)] dX3_moveAside_92 (by decide) rfl ?_
          refine am_aload_n F 1 dX3_moveAside_94 rfl rfl ?_
          refine am_iload_n F 4 dX3_moveAside_95 rfl rfl ?_
          refine am_iconst F (v := (-1 : Int32)) dX3_moveAside_96 (by decide) ?_
          obtain ⟨_, M11, h10, h⟩ := am_bE h
          refine am_callVv F [.int a3, .int (-1 : Int32)] lyk_157 (by decide) rfl cw_X3_104 (c_X3_adopt l D E z a3 (-1 : Int32) M8 M11 h10) yn_X3_adopt rfl ⟨Nat.le_of_ble_eq_true rfl, Nat.le_of_ble_eq_true rfl⟩ rfl rfl (Nat.le_of_ble_eq_true rfl) ⟨Nat.zero_le _, Nat.zero_le _⟩ dX3_moveAside_97 rfl ?_
          refine am_aload_n F 1 dX3_moveAside_100 rfl rfl ?_
          refine am_iload_n F 2 dX3_moveAside_101 rfl rfl ?_
          refine am_iload_n F 3 dX3_moveAside_102 rfl rfl ?_
          obtain ⟨v14, M13, h12, h⟩ := am_bE h
          refine am_callVi F [.int a1, .int a2] lyk_157 (by decide) rfl cw_X3_94 (c_X3_isPlannable l D E z a1 a2 M11 v14 M13 h12) yn_X3_isPlannable rfl ⟨Nat.le_of_ble_eq_true rfl, Nat.le_of_ble_eq_true rfl⟩ rfl rfl (Nat.le_of_ble_eq_true rfl) ⟨Nat.zero_le _, Nat.zero_le _⟩ dX3_moveAside_103 rfl ?_
          refine am_if_eq F (tgt := 117) dX3_moveAside_106 (by decide) (fun c20 => ?_) (fun c20 => ?_)
          · have h := (if_pos c20).symm.trans h
            refine am_aload_n F 1 dX3_moveAside_117 rfl rfl ?_
            refine gf_X3_18 F lyk_157 dX3_moveAside_118 ?_
            refine am_iload_n F 4 dX3_moveAside_121 rfl rfl ?_
            obtain ⟨v17, M16, h15, h⟩ := am_bE h
            refine am_callVr F [.int a3] lyk_1 (by decide) rfl cw_X3_53 (c_X8_robotOf l D E z 1 lyk_1 a3 M13 v17 M16 h15) yn_X8_robotOf rfl ⟨Nat.le_of_ble_eq_true rfl, Nat.le_of_ble_eq_true rfl⟩ rfl rfl (Nat.le_of_ble_eq_true rfl) ⟨Nat.zero_le _, Nat.zero_le _⟩ dX3_moveAside_122 rfl ?_
            refine gf_X3_74 F (q_X8_robotOf 1 lyk_1 a3 M13 v17 M16 h15) dX3_moveAside_125 ?_
            refine am_iload F 0 dX3_moveAside_128 rfl ?_
            refine am_aload_n F 1 dX3_moveAside_130 rfl rfl ?_
            refine gf_X3_18 F lyk_157 dX3_moveAside_131 ?_
            refine gf_X3_97 F lyk_1 dX3_moveAside_134 ?_
            obtain ⟨_, M19, h18, h⟩ := am_bE h
            refine am_callVv F [.int v9, .int (am_g M16 1 4)] (lyf_4_plan (q_X8_robotOf 1 lyk_1 a3 M13 v17 M16 h15)) (by decide) rfl cw_X3_108 (c_X2_restAt l D E z (v17 + 1) (lyf_4_plan (q_X8_robotOf 1 lyk_1 a3 M13 v17 M16 h15)) v9 (am_g M16 1 4) M16 M19 h18) yn_X2_restAt rfl ⟨Nat.le_of_ble_eq_true rfl, Nat.le_of_ble_eq_true rfl⟩ rfl rfl (Nat.le_of_ble_eq_true rfl) ⟨Nat.zero_le _, Nat.zero_le _⟩ dX3_moveAside_137 rfl ?_
            refine am_iinc F [(5, .int (a5 + (1 : Int32))), (6, .int v9), (0, .ref (z + 157)), (1, .int a1), (2, .int a2), (3, .int a3), (4, .int a4)] 6 dX3_moveAside_140 (by decide) rfl rfl rfl ?_
            refine am_goto F (tgt := 49) dX3_moveAside_143 (by decide) ?_
            exact am_sub (lv' := [(0, .ref (z + 157)), (1, .int a1), (2, .int a2), (3, .int a3), (4, .int a4), (5, .int (a5 + (1 : Int32)))]) [2, 3, 4, 5, 6, 0] rfl (ih (a5 + (1 : Int32)) M19 _ _ h K)
          · have h := (if_neg c20).symm.trans h
            cases h
            exact am_sub (lv' := [(0, .ref (z + 157)), (1, .int a1), (3, .int a3)]) [1, 2, 4] rfl (K.1 rfl)
def g_X3_moveAside_L2 (a1 : Int32) (a2 : Int32) : Nat → Int32 → am_M → Option ((Nat × Int32) × am_M)
  | 0, _, _ => none
  | n + 1, a3, M => (if (am_g M 1 2) ≤ a3 then (some ((152, a3), M)) else (if a3 = a1 then (am_b (g_X3_moveAside_L49 a1 a2 a3 (0 : Int32) am_fu (0 : Int32) M) (fun x24 M25 => (if x24 = 109 then (some ((109, a3), M25)) else (g_X3_moveAside_L2 a1 a2 n (a3 + (1 : Int32)) M25)))) else (am_b (g_X8_isIdle 1 a3 M) (fun v30 M29 => (if v30 = (0 : Int32) then (am_b (g_X3_moveAside_L49 a1 a2 a3 (0 : Int32) am_fu (0 : Int32) M29) (fun x31 M32 => (if x31 = 109 then (some ((109, a3), M32)) else (g_X3_moveAside_L2 a1 a2 n (a3 + (1 : Int32)) M32)))) else (am_b (g_X3_hasFinalWithout a3 a1 a2 M29) (fun v37 M36 => (if v37 = (0 : Int32) then (am_b (g_X3_moveAside_L49 a1 a2 a3 (0 : Int32) am_fu (0 : Int32) M36) (fun x38 M39 => (if x38 = 109 then (some ((109, a3), M39)) else (g_X3_moveAside_L2 a1 a2 n (a3 + (1 : Int32)) M39)))) else (am_b (g_X3_moveAside_L49 a1 a2 a3 (1 : Int32) am_fu (0 : Int32) M36) (fun x42 M43 => (if x42 = 109 then (some ((109, a3), M43)) else (g_X3_moveAside_L2 a1 a2 n (a3 + (1 : Int32)) M43))))))))))))
set_option maxHeartbeats 4000000 in
set_option maxRecDepth 100000 in
theorem cl_X3_moveAside_L2 {l : Launch} {p : Program} {e : Env} {s : State} {m : MethodId} {args : Array Value} {below : List Frame} {meth : Method} {c : Code} {Q : State → Prop} {D : va_G} {E : Nat → ClassId} {z : Nat} (F : am_F p s m args meth c cX3_moveAside 7 RX3 D E z) (a1 : Int32) (a2 : Int32) : ∀ (n : Nat) (a3 : Int32) (M : am_M) (x : Nat × Int32) (M1 : am_M), g_X3_moveAside_L2 a1 a2 n a3 M = some (x, M1) → ((x.1 = 109 → am_W p l e rm_X3_moveAside s m args below meth c Q 7 D E z 0 0 M1 109 [(0, .ref (z + 157)), (1, .int a1), (3, .int x.2)] []) ∧ (x.1 = 152 → am_W p l e rm_X3_moveAside s m args below meth c Q 7 D E z 0 0 M1 152 [] [])) → am_W p l e rm_X3_moveAside s m args below meth c Q 7 D E z 0 0 M 2 [(0, .ref (z + 157)), (1, .int a1), (2, .int a2), (3, .int a3)] [] := by
  intro n
  induction n with
  | zero => intro a3 M x M1 h K; cases h
  | succ n ih =>
    intro a3 M x M1 h K
    rw [g_X3_moveAside_L2] at h
    refine am_iload_n F 3 dX3_moveAside_2 rfl rfl ?_
    refine am_aload_n F 0 dX3_moveAside_3 rfl rfl ?_
    refine gf_X3_18 F lyk_157 dX3_moveAside_4 ?_
    refine gf_X3_88 F lyk_1 dX3_moveAside_7 ?_
    refine am_icmp_ge F (tgt := 152) dX3_moveAside_10 (by decide) (fun c49 => ?_) (fun c49 => ?_)
    · have h := (if_pos c49).symm.trans h
      cases h
      exact am_sub (lv' := []) [] rfl (K.2 rfl)
    · have h := (if_neg c49).symm.trans h
      refine am_iload_n F 3 dX3_moveAside_13 rfl rfl ?_
      refine am_iload_n F 1 dX3_moveAside_14 rfl rfl ?_
      refine am_icmp_eq F (tgt := 43) dX3_moveAside_15 (by decide) (fun c48 => ?_) (fun c48 => ?_)
      · have h := (if_pos c48).symm.trans h
        refine am_iconst F (v := (0 : Int32)) dX3_moveAside_43 (by decide) ?_
        refine am_istore F [(4, .int (0 : Int32)), (0, .ref (z + 157)), (1, .int a1), (2, .int a2), (3, .int a3)] dX3_moveAside_44 (by decide) rfl ?_
        refine am_iconst F (v := (0 : Int32)) dX3_moveAside_46 (by decide) ?_
        refine am_istore F [(5, .int (0 : Int32)), (4, .int (0 : Int32)), (0, .ref (z + 157)), (1, .int a1), (2, .int a2), (3, .int a3)] dX3_moveAside_47 (by decide) rfl ?_
        obtain ⟨x24, M25, h26, h⟩ := am_bE h
        refine am_sub (lv' := [(0, .ref (z + 157)), (1, .int a1), (2, .int a2), (3, .int a3), (4, .int (0 : Int32)), (5, .int (0 : Int32))]) [2, 3, 4, 5, 1, 0] rfl (cl_X3_moveAside_L49 F a1 a2 a3 (0 : Int32) am_fu (0 : Int32) M x24 M25 h26 ⟨fun c27 => ?_, fun c27 => ?_⟩)
        · have h := (if_pos c27).symm.trans h
          cases h
          exact am_sub (lv' := [(0, .ref (z + 157)), (1, .int a1), (3, .int a3)]) [0, 1, 2] rfl (K.1 rfl)
        · have h := (if_neg (by rw [c27]; decide)).symm.trans h
          refine am_iinc F [(3, .int (a3 + (1 : Int32))), (0, .ref (z + 157)), (1, .int a1), (2, .int a2)] 3 dX3_moveAside_146 (by decide) rfl rfl rfl ?_
          refine am_goto F (tgt := 2) dX3_moveAside_149 (by decide) ?_
          exact am_sub (lv' := [(0, .ref (z + 157)), (1, .int a1), (2, .int a2), (3, .int (a3 + (1 : Int32)))]) [1, 2, 3, 0] rfl (ih (a3 + (1 : Int32)) M25 _ _ h K)
      · have h := (if_neg c48).symm.trans h
        refine am_aload_n F 0 dX3_moveAside_18 rfl rfl ?_
        refine gf_X3_18 F lyk_157 dX3_moveAside_19 ?_
        refine am_iload_n F 3 dX3_moveAside_22 rfl rfl ?_
        obtain ⟨v30, M29, h28, h⟩ := am_bE h
        refine am_callVi F [.int a3] lyk_1 (by decide) rfl cw_X3_91 (c_X8_isIdle l D E z 1 lyk_1 a3 M v30 M29 h28) yn_X8_isIdle rfl ⟨Nat.le_of_ble_eq_true rfl, Nat.le_of_ble_eq_true rfl⟩ rfl rfl (Nat.le_of_ble_eq_true rfl) ⟨Nat.zero_le _, Nat.zero_le _⟩ dX3_moveAside_23 rfl ?_
        refine am_if_eq F (tgt := 43) dX3_moveAside_26 (by decide) (fun c47 => ?_) (fun c47 => ?_)
        · have h := (if_pos c47).symm.trans h
          refine am_iconst F (v := (0 : Int32)) dX3_moveAside_43 (by decide) ?_
          refine am_istore F [(4, .int (0 : Int32)), (0, .ref (z + 157)), (1, .int a1), (2, .int a2), (3, .int a3)] dX3_moveAside_44 (by decide) rfl ?_
          refine am_iconst F (v := (0 : Int32)) dX3_moveAside_46 (by decide) ?_
          refine am_istore F [(5, .int (0 : Int32)), (4, .int (0 : Int32)), (0, .ref (z + 157)), (1, .int a1), (2, .int a2), (3, .int a3)] dX3_moveAside_47 (by decide) rfl ?_
          obtain ⟨x31, M32, h33, h⟩ := am_bE h
          refine am_sub (lv' := [(0, .ref (z + 157)), (1, .int a1), (2, .int a2), (3, .int a3), (4, .int (0 : Int32)), (5, .int (0 : Int32))]) [2, 3, 4, 5, 1, 0] rfl (cl_X3_moveAside_L49 F a1 a2 a3 (0 : Int32) am_fu (0 : Int32) M29 x31 M32 h33 ⟨fun c34 => ?_, fun c34 => ?_⟩)
          · have h := (if_pos c34).symm.trans h
            cases h
            exact am_sub (lv' := [(0, .ref (z + 157)), (1, .int a1), (3, .int a3)]) [0, 1, 2] rfl (K.1 rfl)
          · have h := (if_neg (by rw [c34]; decide)).symm.trans h
            refine am_iinc F [(3, .int (a3 + (1 : Int32))), (0, .ref (z + 157)), (1, .int a1), (2, .int a2)] 3 dX3_moveAside_146 (by decide) rfl rfl rfl ?_
            refine am_goto F (tgt := 2) dX3_moveAside_149 (by decide) ?_
            exact am_sub (lv' := [(0, .ref (z + 157)), (1, .int a1), (2, .int a2), (3, .int (a3 + (1 : Int32)))]) [1, 2, 3, 0] rfl (ih (a3 + (1 : Int32)) M32 _ _ h K)
        · have h := (if_neg c47).symm.trans h
          refine am_aload_n F 0 dX3_moveAside_29 rfl rfl ?_
          refine am_iload_n F 3 dX3_moveAside_30 rfl rfl ?_
          refine am_iload_n F 1 dX3_moveAside_31 rfl rfl ?_
          refine am_iload_n F 2 dX3_moveAside_32 rfl rfl ?_
          obtain ⟨v37, M36, h35, h⟩ := am_bE h
          refine am_callVi F [.int a3, .int a1, .int a2] lyk_157 (by decide) rfl cw_X3_84 (c_X3_hasFinalWithout l D E z a3 a1 a2 M29 v37 M36 h35) yn_X3_hasFinalWithout rfl ⟨Nat.le_of_ble_eq_true rfl, Nat.le_of_ble_eq_true rfl⟩ rfl rfl (Nat.le_of_ble_eq_true rfl) ⟨Nat.zero_le _, Nat.zero_le _⟩ dX3_moveAside_33 rfl ?_
          refine am_if_eq F (tgt := 43) dX3_moveAside_36 (by decide) (fun c46 => ?_) (fun c46 => ?_)
          · have h := (if_pos c46).symm.trans h
            refine am_iconst F (v := (0 : Int32)) dX3_moveAside_43 (by decide) ?_
            refine am_istore F [(4, .int (0 : Int32)), (0, .ref (z + 157)), (1, .int a1), (2, .int a2), (3, .int a3)] dX3_moveAside_44 (by decide) rfl ?_
            refine am_iconst F (v := (0 : Int32)) dX3_moveAside_46 (by decide) ?_
            refine am_istore F [(5, .int (0 : Int32)), (4, .int (0 : Int32)), (0, .ref (z + 157)), (1, .int a1), (2, .int a2), (3, .int a3)] dX3_moveAside_47 (by decide) rfl ?_
            obtain ⟨x38, M39, h40, h⟩ := am_bE h
            refine am_sub (lv' := [(0, .ref (z + 157)), (1, .int a1), (2, .int a2), (3, .int a3), (4, .int (0 : Int32)), (5, .int (0 : Int32))]) [2, 3, 4, 5, 1, 0] rfl (cl_X3_moveAside_L49 F a1 a2 a3 (0 : Int32) am_fu (0 : Int32) M36 x38 M39 h40 ⟨fun c41 => ?_, fun c41 => ?_⟩)
            · have h := (if_pos c41).symm.trans h
              cases h
              exact am_sub (lv' := [(0, .ref (z + 157)), (1, .int a1), (3, .int a3)]) [0, 1, 2] rfl (K.1 rfl)
            · have h := (if_neg (by rw [c41]; decide)).symm.trans h
              refine am_iinc F [(3, .int (a3 + (1 : Int32))), (0, .ref (z + 157)), (1, .int a1), (2, .int a2)] 3 dX3_moveAside_146 (by decide) rfl rfl rfl ?_
              refine am_goto F (tgt := 2) dX3_moveAside_149 (by decide) ?_
              exact am_sub (lv' := [(0, .ref (z + 157)), (1, .int a1), (2, .int a2), (3, .int (a3 + (1 : Int32)))]) [1, 2, 3, 0] rfl (ih (a3 + (1 : Int32)) M39 _ _ h K)
          · have h := (if_neg c46).symm.trans h
            refine am_iconst F (v := (1 : Int32)) dX3_moveAside_39 (by decide) ?_
            refine am_goto F (tgt := 44) dX3_moveAside_40 (by decide) ?_
            refine am_istore F [(4, .int (1 : Int32)), (0, .ref (z + 157)), (1, .int a1), (2, .int a2), (3, .int a3)] dX3_moveAside_44 (by decide) rfl ?_
            refine am_iconst F (v := (0 : Int32)) dX3_moveAside_46 (by decide) ?_
            refine am_istore F [(5, .int (0 : Int32)), (4, .int (1 : Int32)), (0, .ref (z + 157)), (1, .int a1), (2, .int a2), (3, .int a3)] dX3_moveAside_47 (by decide) rfl ?_
            obtain ⟨x42, M43, h44, h⟩ := am_bE h
            refine am_sub (lv' := [(0, .ref (z + 157)), (1, .int a1), (2, .int a2), (3, .int a3), (4, .int (1 : Int32)), (5, .int (0 : Int32))]) [2, 3, 4, 5, 1, 0] rfl (cl_X3_moveAside_L49 F a1 a2 a3 (1 : Int32) am_fu (0 : Int32) M36 x42 M43 h44 ⟨fun c45 => ?_, fun c45 => ?_⟩)
            · have h := (if_pos c45).symm.trans h
              cases h
              exact am_sub (lv' := [(0, .ref (z + 157)), (1, .int a1), (3, .int a3)]) [0, 1, 2] rfl (K.1 rfl)
            · have h := (if_neg (by rw [c45]; decide)).symm.trans h
              refine am_iinc F [(3, .int (a3 + (1 : Int32))), (0, .ref (z + 157)), (1, .int a1), (2, .int a2)] 3 dX3_moveAside_146 (by decide) rfl rfl rfl ?_
              refine am_goto F (tgt := 2) dX3_moveAside_149 (by decide) ?_
              exact am_sub (lv' := [(0, .ref (z + 157)), (1, .int a1), (2, .int a2), (3, .int (a3 + (1 : Int32)))]) [1, 2, 3, 0] rfl (ih (a3 + (1 : Int32)) M43 _ _ h K)
def g_X3_moveAside (a1 : Int32) (a2 : Int32) (M : am_M) : Option (Int32 × am_M) := (am_b (g_X3_moveAside_L2 a1 a2 am_fu (0 : Int32) M) (fun x50 M51 => (if x50.1 = 109 then (am_b (g_X3_adopt a1 (-1 : Int32) M51) (fun _ M55 => (some (x50.2, M55)))) else (some ((-1 : Int32), M51)))))
set_option maxHeartbeats 4000000 in
set_option maxRecDepth 100000 in
theorem c_X3_moveAside (l : Launch) (D : va_G) (E : Nat → ClassId) (z : Nat) (a1 : Int32) (a2 : Int32) (M : am_M) (r0 : Int32) (M1 : am_M) (h : g_X3_moveAside a1 a2 M = some (r0, M1)) : am_Mi l yX3_moveAside cX3_moveAside 7 (some .int) rm_X3_moveAside D E z [.ref (z + 157), .int a1, .int a2] M r0 M1 := by
  unfold g_X3_moveAside at h
  refine am_of (own := RX3) (by decide +kernel) rfl (by exact Nat.le_of_ble_eq_true rfl) ?_
  intro p e s m args below meth c F hr
  show am_W p l e rm_X3_moveAside s m args below meth c _ 7 D E z 0 0 M 0 [(0, .ref (z + 157)), (1, .int a1), (2, .int a2)] []
  refine am_iconst F (v := (0 : Int32)) dX3_moveAside_0 (by decide) ?_
  refine am_istore_n F [(3, .int (0 : Int32)), (0, .ref (z + 157)), (1, .int a1), (2, .int a2)] dX3_moveAside_1 rfl (by decide) rfl ?_
  obtain ⟨x50, M51, h52, h⟩ := am_bE h
  refine am_sub (lv' := [(0, .ref (z + 157)), (1, .int a1), (2, .int a2), (3, .int (0 : Int32))]) [1, 2, 3, 0] rfl (cl_X3_moveAside_L2 F a1 a2 am_fu (0 : Int32) M x50 M51 h52 ⟨fun c53 => ?_, fun c53 => ?_⟩)
  · have h := (if_pos c53).symm.trans h
    refine am_aload_n F 0 dX3_moveAside_109 rfl rfl ?_
    refine am_iload_n F 1 dX3_moveAside_110 rfl rfl ?_
    refine am_iconst F (v := (-1 : Int32)) dX3_moveAside_111 (by decide) ?_
    obtain ⟨_, M55, h54, h⟩ := am_bE h
    refine am_callVv F [.int a1, .int (-1 : Int32)] lyk_157 (by decide) rfl cw_X3_104 (c_X3_adopt l D E z a1 (-1 : Int32) M51 M55 h54) yn_X3_adopt rfl ⟨Nat.le_of_ble_eq_true rfl, Nat.le_of_ble_eq_true rfl⟩ rfl rfl (Nat.le_of_ble_eq_true rfl) ⟨Nat.zero_le _, Nat.zero_le _⟩ dX3_moveAside_112 rfl ?_
    refine am_iload_n F 2 dX3_moveAside_115 rfl rfl ?_
    exact am_iret F hr h dX3_moveAside_116
  · have h := (if_neg (by rw [c53]; decide)).symm.trans h
    refine am_iconst F (v := (-1 : Int32)) dX3_moveAside_152 (by decide) ?_
    exact am_iret F hr h dX3_moveAside_153
/-! AisleScheduler$Planner.nearestCharger(I)I -/
abbrev rm_X3_nearestCharger : Room := { frames := 7, cells := 0, slots := 0, locals := 177 }
theorem yn_X3_nearestCharger : am_yn yX3_nearestCharger 1 := ⟨⟨by decide +kernel, by decide +kernel⟩, by decide +kernel⟩
def g_X3_nearestCharger_J39 (rc : Int32 → Int32 → Int32 → am_M → Option ((Int32) × am_M)) (a1 : Int32) (a2 : Int32) (a3 : Int32) (a4 : Int32) (as0 : Int32) (M : am_M) : Option ((Int32) × am_M) := (if as0 = (0 : Int32) then (rc a2 a3 (a4 + (1 : Int32)) M) else (am_b (g_X3_isPlannable a1 a4 M) (fun v6 M5 => (if v6 = (0 : Int32) then (rc a2 a3 (a4 + (1 : Int32)) M5) else (if a3 ≤ (am_g M5 158 3) then (rc a2 a3 (a4 + (1 : Int32)) M5) else (rc a4 (am_g M5 158 3) (a4 + (1 : Int32)) M5))))))
set_option maxHeartbeats 4000000 in
set_option maxRecDepth 100000 in
theorem cj_X3_nearestCharger_J39 {l : Launch} {p : Program} {e : Env} {s : State} {m : MethodId} {args : Array Value} {below : List Frame} {meth : Method} {c : Code} {Q : State → Prop} {D : va_G} {E : Nat → ClassId} {z : Nat} (F : am_F p s m args meth c cX3_nearestCharger 6 RX3 D E z) (rc : Int32 → Int32 → Int32 → am_M → Option ((Int32) × am_M)) (a1 : Int32) (a2 : Int32) (a3 : Int32) (a4 : Int32) (as0 : Int32) (M : am_M) (x : Int32) (M1 : am_M) (h : g_X3_nearestCharger_J39 rc a1 a2 a3 a4 as0 M = some (x, M1)) (HR : ∀ (b2 : Int32) (b3 : Int32) (b4 : Int32) (M2 : am_M), rc b2 b3 b4 M2 = some (x, M1) → am_W p l e rm_X3_nearestCharger s m args below meth c Q 6 D E z 0 0 M2 8 [(0, .ref (z + 157)), (1, .int a1), (2, .int b2), (3, .int b3), (4, .int b4)] []) (K : am_W p l e rm_X3_nearestCharger s m args below meth c Q 6 D E z 0 0 M1 84 [(2, .int x)] []) : am_W p l e rm_X3_nearestCharger s m args below meth c Q 6 D E z 0 0 M 39 [(0, .ref (z + 157)), (1, .int a1), (2, .int a2), (3, .int a3), (4, .int a4)] [.int as0] := by
  unfold g_X3_nearestCharger_J39 at h
  refine am_istore F [(5, .int as0), (0, .ref (z + 157)), (1, .int a1), (2, .int a2), (3, .int a3), (4, .int a4)] dX3_nearestCharger_39 (by decide) rfl ?_
  refine am_iload F 0 dX3_nearestCharger_41 rfl ?_
  refine am_if_eq F (tgt := 78) dX3_nearestCharger_43 (by decide) (fun c9 => ?_) (fun c9 => ?_)
  · have h := (if_pos c9).symm.trans h
    refine am_iinc F [(4, .int (a4 + (1 : Int32))), (5, .int as0), (0, .ref (z + 157)), (1, .int a1), (2, .int a2), (3, .int a3)] 5 dX3_nearestCharger_78 (by decide) rfl rfl rfl ?_
    refine am_goto F (tgt := 8) dX3_nearestCharger_81 (by decide) ?_
    exact am_sub (lv' := [(0, .ref (z + 157)), (1, .int a1), (2, .int a2), (3, .int a3), (4, .int (a4 + (1 : Int32)))]) [2, 3, 4, 5, 0] rfl (HR a2 a3 (a4 + (1 : Int32)) M h)
  · have h := (if_neg c9).symm.trans h
    refine am_aload_n F 1 dX3_nearestCharger_46 rfl rfl ?_
    refine am_iload_n F 2 dX3_nearestCharger_47 rfl rfl ?_
    refine am_iload F 5 dX3_nearestCharger_48 rfl ?_
    obtain ⟨v6, M5, h4, h⟩ := am_bE h
    refine am_callVi F [.int a1, .int a4] lyk_157 (by decide) rfl cw_X3_94 (c_X3_isPlannable l D E z a1 a4 M v6 M5 h4) yn_X3_isPlannable rfl ⟨Nat.le_of_ble_eq_true rfl, Nat.le_of_ble_eq_true rfl⟩ rfl rfl (Nat.le_of_ble_eq_true rfl) ⟨Nat.zero_le _, Nat.zero_le _⟩ dX3_nearestCharger_50 rfl ?_
    refine am_if_eq F (tgt := 78) dX3_nearestCharger_53 (by decide) (fun c8 => ?_) (fun c8 => ?_)
    · have h := (if_pos c8).symm.trans h
      refine am_iinc F [(4, .int (a4 + (1 : Int32))), (5, .int as0), (0, .ref (z + 157)), (1, .int a1), (2, .int a2), (3, .int a3)] 5 dX3_nearestCharger_78 (by decide) rfl rfl rfl ?_
      refine am_goto F (tgt := 8) dX3_nearestCharger_81 (by decide) ?_
      exact am_sub (lv' := [(0, .ref (z + 157)), (1, .int a1), (2, .int a2), (3, .int a3), (4, .int (a4 + (1 : Int32)))]) [2, 3, 4, 5, 0] rfl (HR a2 a3 (a4 + (1 : Int32)) M5 h)
    · have h := (if_neg c8).symm.trans h
      refine am_aload_n F 1 dX3_nearestCharger_56 rfl rfl ?_
      refine gf_X3_12 F lyk_157 dX3_nearestCharger_57 ?_
      refine gf_X3_122 F lyk_158 dX3_nearestCharger_60 ?_
      refine am_iload_n F 4 dX3_nearestCharger_63 rfl rfl ?_
      refine am_icmp_ge F (tgt := 78) dX3_nearestCharger_64 (by decide) (fun c7 => ?_) (fun c7 => ?_)
      · have h := (if_pos c7).symm.trans h
        refine am_iinc F [(4, .int (a4 + (1 : Int32))), (5, .int as0), (0, .ref (z + 157)), (1, .int a1), (2, .int a2), (3, .int a3)] 5 dX3_nearestCharger_78 (by decide) rfl rfl rfl ?_
        refine am_goto F (tgt := 8) dX3_nearestCharger_81 (by decide) ?_
        exact am_sub (lv' := [(0, .ref (z + 157)), (1, .int a1), (2, .int a2), (3, .int a3), (4, .int (a4 + (1 : Int32)))]) [2, 3, 4, 5, 0] rfl (HR a2 a3 (a4 + (1 : Int32)) M5 h)
      · have h := (if_neg c7).symm.trans h
        refine am_iload F 5 dX3_nearestCharger_67 rfl ?_
        refine am_istore_n F [(2, .int a4), (5, .int as0), (0, .ref (z + 157)), (1, .int a1), (3, .int a3), (4, .int a4)] dX3_nearestCharger_69 rfl (by decide) rfl ?_
        refine am_aload_n F 2 dX3_nearestCharger_70 rfl rfl ?_
        refine gf_X3_12 F lyk_157 dX3_nearestCharger_71 ?_
        refine gf_X3_122 F lyk_158 dX3_nearestCharger_74 ?_
        refine am_istore_n F [(3, .int (am_g M5 158 3)), (2, .int a4), (5, .int as0), (0, .ref (z + 157)), (1, .int a1), (4, .int a4)] dX3_nearestCharger_77 rfl (by decide) rfl ?_
        refine am_iinc F [(4, .int (a4 + (1 : Int32))), (3, .int (am_g M5 158 3)), (2, .int a4), (5, .int as0), (0, .ref (z + 157)), (1, .int a1)] 5 dX3_nearestCharger_78 (by decide) rfl rfl rfl ?_
        refine am_goto F (tgt := 8) dX3_nearestCharger_81 (by decide) ?_
        exact am_sub (lv' := [(0, .ref (z + 157)), (1, .int a1), (2, .int a4), (3, .int (am_g M5 158 3)), (4, .int (a4 + (1 : Int32)))]) [4, 5, 2, 1, 0] rfl (HR a4 (am_g M5 158 3) (a4 + (1 : Int32)) M5 h)
def g_X3_nearestCharger_L8 (a1 : Int32) : Nat → Int32 → Int32 → Int32 → am_M → Option ((Int32) × am_M)
  | 0, _, _, _, _ => none
  | n + 1, a2, a3, a4, M => (if (40 : Int32) ≤ a4 then (some (a2, M)) else (am_b (g_X9_at ((1 + 1) + 1) 40 a4 M) (fun v3 M2 => (if v3 = (2 : Int32) then (g_X3_nearestCharger_J39 (g_X3_nearestCharger_L8 a1 n) a1 a2 a3 a4 (1 : Int32) M2) else (g_X3_nearestCharger_J39 (g_X3_nearestCharger_L8 a1 n) a1 a2 a3 a4 (0 : Int32) M2)))))
set_option maxHeartbeats 4000000 in
set_option maxRecDepth 100000 in
theorem cl_X3_nearestCharger_L8 {l : Launch} {p : Program} {e : Env} {s : State} {m : MethodId} {args : Array Value} {below : List Frame} {meth : Method} {c : Code} {Q : State → Prop} {D : va_G} {E : Nat → ClassId} {z : Nat} (F : am_F p s m args meth c cX3_nearestCharger 6 RX3 D E z) (a1 : Int32) : ∀ (n : Nat) (a2 : Int32) (a3 : Int32) (a4 : Int32) (M : am_M) (x : Int32) (M1 : am_M), g_X3_nearestCharger_L8 a1 n a2 a3 a4 M = some (x, M1) → (am_W p l e rm_X3_nearestCharger s m args below meth c Q 6 D E z 0 0 M1 84 [(2, .int x)] []) → am_W p l e rm_X3_nearestCharger s m args below meth c Q 6 D E z 0 0 M 8 [(0, .ref (z + 157)), (1, .int a1), (2, .int a2), (3, .int a3), (4, .int a4)] [] := by
  intro n
  induction n with
  | zero => intro a2 a3 a4 M x M1 h K; cases h
  | succ n ih =>
    intro a2 a3 a4 M x M1 h K
    rw [g_X3_nearestCharger_L8] at h
    refine am_iload F 4 dX3_nearestCharger_8 rfl ?_
    refine am_bipush F (v := (40 : Int32)) dX3_nearestCharger_10 (by decide) ?_
    refine am_icmp_ge F (tgt := 84) dX3_nearestCharger_12 (by decide) (fun c11 => ?_) (fun c11 => ?_)
    · have h := (if_pos c11).symm.trans h
      cases h
      exact am_sub (lv' := [(2, .int a2)]) [2] rfl (K)
    · have h := (if_neg c11).symm.trans h
      refine am_aload_n F 0 dX3_nearestCharger_15 rfl rfl ?_
      refine gf_X3_18 F lyk_157 dX3_nearestCharger_16 ?_
      refine gf_X3_24 F lyk_1 dX3_nearestCharger_19 ?_
      refine gf_X3_112 F (lyf_8_floor lyk_1) dX3_nearestCharger_22 ?_
      refine am_iload F 4 dX3_nearestCharger_25 rfl ?_
      obtain ⟨v3, M2, h1, h⟩ := am_bE h
      refine am_callSNi F [.ref (z + ((1 + 1) + 1)), .int a4] cw_X3_118  (c_X9_at l D E z ((1 + 1) + 1) 40 (lyf_1_kinds (lyf_8_floor lyk_1)) a4 M v3 M2 h1) yn_X9_at rfl ⟨Nat.le_of_ble_eq_true rfl, Nat.le_of_ble_eq_true rfl⟩ rfl rfl (Nat.le_of_ble_eq_true rfl) ⟨Nat.zero_le _, Nat.zero_le _⟩ dX3_nearestCharger_27 rfl ?_
      refine am_iconst F (v := (2 : Int32)) dX3_nearestCharger_30 (by decide) ?_
      refine am_icmp_ne F (tgt := 38) dX3_nearestCharger_31 (by decide) (fun c10 => ?_) (fun c10 => ?_)
      · have h := (if_neg c10).symm.trans h
        refine am_iconst F (v := (0 : Int32)) dX3_nearestCharger_38 (by decide) ?_
        exact am_sub (lv' := [(0, .ref (z + 157)), (1, .int a1), (2, .int a2), (3, .int a3), (4, .int a4)]) [0, 1, 2, 3, 4] rfl (cj_X3_nearestCharger_J39 F (g_X3_nearestCharger_L8 a1 n) a1 a2 a3 a4 (0 : Int32) M2 _ _ h (fun b2 b3 b4 M2 h2 => ih b2 b3 b4 M2 _ _ h2 K) K)
      · have h := (if_pos c10).symm.trans h
        refine am_iconst F (v := (1 : Int32)) dX3_nearestCharger_34 (by decide) ?_
        refine am_goto F (tgt := 39) dX3_nearestCharger_35 (by decide) ?_
        exact am_sub (lv' := [(0, .ref (z + 157)), (1, .int a1), (2, .int a2), (3, .int a3), (4, .int a4)]) [0, 1, 2, 3, 4] rfl (cj_X3_nearestCharger_J39 F (g_X3_nearestCharger_L8 a1 n) a1 a2 a3 a4 (1 : Int32) M2 _ _ h (fun b2 b3 b4 M2 h2 => ih b2 b3 b4 M2 _ _ h2 K) K)
def g_X3_nearestCharger (a1 : Int32) (M : am_M) : Option (Int32 × am_M) := (am_b (g_X3_nearestCharger_L8 a1 am_fu (-1 : Int32) (1000000 : Int32) (0 : Int32) M) (fun x12 M13 => (some (x12, M13))))
set_option maxHeartbeats 4000000 in
set_option maxRecDepth 100000 in
theorem c_X3_nearestCharger (l : Launch) (D : va_G) (E : Nat → ClassId) (z : Nat) (a1 : Int32) (M : am_M) (r0 : Int32) (M1 : am_M) (h : g_X3_nearestCharger a1 M = some (r0, M1)) : am_Mi l yX3_nearestCharger cX3_nearestCharger 6 (some .int) rm_X3_nearestCharger D E z [.ref (z + 157), .int a1] M r0 M1 := by
  unfold g_X3_nearestCharger at h
  refine am_of (own := RX3) (by decide +kernel) rfl (by exact Nat.le_of_ble_eq_true rfl) ?_
  intro p e s m args below meth c F hr
  show am_W p l e rm_X3_nearestCharger s m args below meth c _ 6 D E z 0 0 M 0 [(0, .ref (z + 157)), (1, .int a1)] []
  refine am_iconst F (v := (-1 : Int32)) dX3_nearestCharger_0 (by decide) ?_
  refine am_istore_n F [(2, .int (-1 : Int32)), (0, .ref (z + 157)), (1, .int a1)] dX3_nearestCharger_1 rfl (by decide) rfl ?_
  refine am_ldc F (v := (1000000 : Int32)) dX3_nearestCharger_2 wd_387 ?_
  refine am_istore_n F [(3, .int (1000000 : Int32)), (2, .int (-1 : Int32)), (0, .ref (z + 157)), (1, .int a1)] dX3_nearestCharger_4 rfl (by decide) rfl ?_
  refine am_iconst F (v := (0 : Int32)) dX3_nearestCharger_5 (by decide) ?_
  refine am_istore F [(4, .int (0 : Int32)), (3, .int (1000000 : Int32)), (2, .int (-1 : Int32)), (0, .ref (z + 157)), (1, .int a1)] dX3_nearestCharger_6 (by decide) rfl ?_
  obtain ⟨x12, M13, h14, h⟩ := am_bE h
  refine am_sub (lv' := [(0, .ref (z + 157)), (1, .int a1), (2, .int (-1 : Int32)), (3, .int (1000000 : Int32)), (4, .int (0 : Int32))]) [3, 4, 2, 1, 0] rfl (cl_X3_nearestCharger_L8 F a1 am_fu (-1 : Int32) (1000000 : Int32) (0 : Int32) M x12 M13 h14 ?_)
  refine am_iload_n F 0 dX3_nearestCharger_84 rfl rfl ?_
  exact am_iret F hr h dX3_nearestCharger_85
/-! AisleScheduler$World.isInLift(I)Z -/
abbrev rm_X8_isInLift : Room := { frames := 3, cells := 0, slots := 0, locals := 66 }
theorem yn_X8_isInLift : am_yn yX8_isInLift 1 := ⟨⟨by decide +kernel, by decide +kernel⟩, by decide +kernel⟩
def g_X8_isInLift (t0 : Nat) (a1 : Int32) (M : am_M) : Option (Int32 × am_M) := (am_b (g_X8_robotOf t0 a1 M) (fun v3 M2 => (am_b (g_X2_placeAt (v3 + 1) (am_g M2 t0 4) M2) (fun v6 M5 => (if (0 : Int32) ≤ v6 then (some ((0 : Int32), M5)) else (some ((1 : Int32), M5)))))))
set_option maxHeartbeats 4000000 in
set_option maxRecDepth 100000 in
theorem c_X8_isInLift (l : Launch) (D : va_G) (E : Nat → ClassId) (z : Nat) (t0 : Nat) (y0 : am_ly t0 = (8, 0)) (a1 : Int32) (M : am_M) (r0 : Int32) (M1 : am_M) (h : g_X8_isInLift t0 a1 M = some (r0, M1)) : am_Mi l yX8_isInLift cX8_isInLift 2 (some .boolean) rm_X8_isInLift D E z [.ref (z + t0), .int a1] M r0 M1 := by
  unfold g_X8_isInLift at h
  refine am_of (own := RX8) (by decide +kernel) rfl (by exact Nat.le_of_ble_eq_true rfl) ?_
  intro p e s m args below meth c F hr
  show am_W p l e rm_X8_isInLift s m args below meth c _ 2 D E z 0 0 M 0 [(0, .ref (z + t0)), (1, .int a1)] []
  refine am_aload_n F 0 dX8_isInLift_0 rfl rfl ?_
  refine am_iload_n F 1 dX8_isInLift_1 rfl rfl ?_
  obtain ⟨v3, M2, h1, h⟩ := am_bE h
  refine am_callVr F [.int a1] y0 (by decide) rfl cw_X8_69 (c_X8_robotOf l D E z t0 y0 a1 M v3 M2 h1) yn_X8_robotOf rfl ⟨Nat.le_of_ble_eq_true rfl, Nat.le_of_ble_eq_true rfl⟩ rfl rfl (Nat.le_of_ble_eq_true rfl) ⟨Nat.zero_le _, Nat.zero_le _⟩ dX8_isInLift_2 rfl ?_
  refine gf_X8_83 F (q_X8_robotOf t0 y0 a1 M v3 M2 h1) dX8_isInLift_5 ?_
  refine am_aload_n F 0 dX8_isInLift_8 rfl rfl ?_
  refine gf_X8_58 F y0 dX8_isInLift_9 ?_
  obtain ⟨v6, M5, h4, h⟩ := am_bE h
  refine am_callVi F [.int (am_g M2 t0 4)] (lyf_4_plan (q_X8_robotOf t0 y0 a1 M v3 M2 h1)) (by decide) rfl cw_X8_93 (c_X2_placeAt l D E z (v3 + 1) (lyf_4_plan (q_X8_robotOf t0 y0 a1 M v3 M2 h1)) (am_g M2 t0 4) M2 v6 M5 h4) yn_X2_placeAt rfl ⟨Nat.le_of_ble_eq_true rfl, Nat.le_of_ble_eq_true rfl⟩ rfl rfl (Nat.le_of_ble_eq_true rfl) ⟨Nat.zero_le _, Nat.zero_le _⟩ dX8_isInLift_12 rfl ?_
  refine am_if_ge F (tgt := 22) dX8_isInLift_15 (by decide) (fun c7 => ?_) (fun c7 => ?_)
  · have h := (if_pos c7).symm.trans h
    refine am_iconst F (v := (0 : Int32)) dX8_isInLift_22 (by decide) ?_
    exact am_zret F hr (by decide) h dX8_isInLift_23
  · have h := (if_neg c7).symm.trans h
    refine am_iconst F (v := (1 : Int32)) dX8_isInLift_18 (by decide) ?_
    refine am_goto F (tgt := 23) dX8_isInLift_19 (by decide) ?_
    exact am_zret F hr (by decide) h dX8_isInLift_23
/-! AisleScheduler$Planner.waitUntil(I)Z -/
abbrev rm_X3_waitUntil : Room := { frames := 3, cells := 0, slots := 0, locals := 70 }
theorem yn_X3_waitUntil : am_yn yX3_waitUntil 1 := ⟨⟨by decide +kernel, by decide +kernel⟩, by decide +kernel⟩
def g_X3_waitUntil_L37 (a2 : Int32) (a3 : Int32) : Nat → Int32 → am_M → Option ((Nat) × am_M)
  | 0, _, _ => none
  | n + 1, a4, M => (if a2 < a4 then (some (73, M)) else (am_b (g_X0_isClosed a3 a4 M) (fun v6 M5 => (if v6 = (0 : Int32) then (am_b (g_X2_addAction 158 (0 : Int32) a3 M5) (fun _ M8 => (g_X3_waitUntil_L37 a2 a3 n (a4 + (1 : Int32)) M8))) else (some (56, M5))))))
set_option maxHeartbeats 4000000 in
set_option maxRecDepth 100000 in
theorem cl_X3_waitUntil_L37 {l : Launch} {p : Program} {e : Env} {s : State} {m : MethodId} {args : Array Value} {below : List Frame} {meth : Method} {c : Code} {Q : State → Prop} {D : va_G} {E : Nat → ClassId} {z : Nat} (F : am_F p s m args meth c cX3_waitUntil 5 RX3 D E z) (a2 : Int32) (a3 : Int32) : ∀ (n : Nat) (a4 : Int32) (M : am_M) (x : Nat) (M1 : am_M), g_X3_waitUntil_L37 a2 a3 n a4 M = some (x, M1) → ((x = 56 → am_W p l e rm_X3_waitUntil s m args below meth c Q 5 D E z 0 0 M1 56 [] []) ∧ (x = 73 → am_W p l e rm_X3_waitUntil s m args below meth c Q 5 D E z 0 0 M1 73 [] [])) → am_W p l e rm_X3_waitUntil s m args below meth c Q 5 D E z 0 0 M 37 [(0, .ref (z + 157)), (2, .int a2), (3, .int a3), (4, .int a4)] [] := by
  intro n
  induction n with
  | zero => intro a4 M x M1 h K; cases h
  | succ n ih =>
    intro a4 M x M1 h K
    rw [g_X3_waitUntil_L37] at h
    refine am_iload F 3 dX3_waitUntil_37 rfl ?_
    refine am_iload_n F 1 dX3_waitUntil_39 rfl rfl ?_
    refine am_icmp_gt F (tgt := 73) dX3_waitUntil_40 (by decide) (fun c10 => ?_) (fun c10 => ?_)
    · have h := (if_pos c10).symm.trans h
      cases h
      exact am_sub (lv' := []) [] rfl (K.2 rfl)
    · have h := (if_neg c10).symm.trans h
      refine am_aload_n F 0 dX3_waitUntil_43 rfl rfl ?_
      refine gf_X3_33 F lyk_157 dX3_waitUntil_44 ?_
      refine am_iload_n F 2 dX3_waitUntil_47 rfl rfl ?_
      refine am_iload F 3 dX3_waitUntil_48 rfl ?_
      obtain ⟨v6, M5, h4, h⟩ := am_bE h
      refine am_callVi F [.int a3, .int a4] lyk_161 (by decide) rfl cw_X3_153 (c_X0_isClosed l D E z a3 a4 M v6 M5 h4) yn_X0_isClosed rfl ⟨Nat.le_of_ble_eq_true rfl, Nat.le_of_ble_eq_true rfl⟩ rfl rfl (Nat.le_of_ble_eq_true rfl) ⟨Nat.zero_le _, Nat.zero_le _⟩ dX3_waitUntil_50 rfl ?_
      refine am_if_eq F (tgt := 58) dX3_waitUntil_53 (by decide) (fun c9 => ?_) (fun c9 => ?_)
      · have h := (if_pos c9).symm.trans h
        refine am_aload_n F 0 dX3_waitUntil_58 rfl rfl ?_
        refine gf_X3_12 F lyk_157 dX3_waitUntil_59 ?_
        refine am_iconst F (v := (0 : Int32)) dX3_waitUntil_62 (by decide) ?_
        refine am_iload_n F 2 dX3_waitUntil_63 rfl rfl ?_
        obtain ⟨_, M8, h7, h⟩ := am_bE h
        refine am_callVv F [.int (0 : Int32), .int a3] lyk_158 (by decide) rfl cw_X3_156 (c_X2_addAction l D E z 158 lyk_158 (0 : Int32) a3 M5 M8 h7) yn_X2_addAction rfl ⟨Nat.le_of_ble_eq_true rfl, Nat.le_of_ble_eq_true rfl⟩ rfl rfl (Nat.le_of_ble_eq_true rfl) ⟨Nat.zero_le _, Nat.zero_le _⟩ dX3_waitUntil_64 rfl ?_
        refine am_iinc F [(4, .int (a4 + (1 : Int32))), (0, .ref (z + 157)), (2, .int a2), (3, .int a3)] 3 dX3_waitUntil_67 (by decide) rfl rfl rfl ?_
        refine am_goto F (tgt := 37) dX3_waitUntil_70 (by decide) ?_
        exact am_sub (lv' := [(0, .ref (z + 157)), (2, .int a2), (3, .int a3), (4, .int (a4 + (1 : Int32)))]) [1, 2, 3, 0] rfl (ih (a4 + (1 : Int32)) M8 _ _ h K)
      · have h := (if_neg c9).symm.trans h
        cases h
        exact am_sub (lv' := []) [] rfl (K.1 rfl)
def g_X3_waitUntil (a1 : Int32) (M : am_M) : Option (Int32 × am_M) := (am_b (g_X2_lastPlace 158 M) (fun v3 M2 => (if (a1 - (am_g M 1 4)) ≤ (30 : Int32) then (am_b (g_X3_waitUntil_L37 (a1 - (am_g M 1 4)) v3 am_fu ((am_g M2 158 3) + (1 : Int32)) M2) (fun x11 M12 => (if x11 = 56 then (some ((0 : Int32), M12)) else (some ((1 : Int32), M12))))) else (some ((0 : Int32), M2)))))
set_option maxHeartbeats 4000000 in
set_option maxRecDepth 100000 in
theorem c_X3_waitUntil (l : Launch) (D : va_G) (E : Nat → ClassId) (z : Nat) (a1 : Int32) (M : am_M) (r0 : Int32) (M1 : am_M) (h : g_X3_waitUntil a1 M = some (r0, M1)) : am_Mi l yX3_waitUntil cX3_waitUntil 5 (some .boolean) rm_X3_waitUntil D E z [.ref (z + 157), .int a1] M r0 M1 := by
  unfold g_X3_waitUntil at h
  refine am_of (own := RX3) (by decide +kernel) rfl (by exact Nat.le_of_ble_eq_true rfl) ?_
  intro p e s m args below meth c F hr
  show am_W p l e rm_X3_waitUntil s m args below meth c _ 5 D E z 0 0 M 0 [(0, .ref (z + 157)), (1, .int a1)] []
  refine am_iload_n F 1 dX3_waitUntil_0 rfl rfl ?_
  refine am_aload_n F 0 dX3_waitUntil_1 rfl rfl ?_
  refine gf_X3_18 F lyk_157 dX3_waitUntil_2 ?_
  refine gf_X3_97 F lyk_1 dX3_waitUntil_5 ?_
  refine am_isub F dX3_waitUntil_8 ?_
  refine am_istore_n F [(2, .int (a1 - (am_g M 1 4))), (0, .ref (z + 157)), (1, .int a1)] dX3_waitUntil_9 rfl (by decide) rfl ?_
  refine am_aload_n F 1 dX3_waitUntil_10 rfl rfl ?_
  refine gf_X3_12 F lyk_157 dX3_waitUntil_11 ?_
  obtain ⟨v3, M2, h1, h⟩ := am_bE h
  refine am_callVi F [] lyk_158 (by decide) rfl cw_X3_149 (c_X2_lastPlace l D E z 158 lyk_158 M v3 M2 h1) yn_X2_lastPlace rfl ⟨Nat.le_of_ble_eq_true rfl, Nat.le_of_ble_eq_true rfl⟩ rfl rfl (Nat.le_of_ble_eq_true rfl) ⟨Nat.zero_le _, Nat.zero_le _⟩ dX3_waitUntil_14 rfl ?_
  refine am_istore_n F [(3, .int v3), (2, .int (a1 - (am_g M 1 4))), (0, .ref (z + 157)), (1, .int a1)] dX3_waitUntil_17 rfl (by decide) rfl ?_
  refine am_iload_n F 1 dX3_waitUntil_18 rfl rfl ?_
  refine am_bipush F (v := (30 : Int32)) dX3_waitUntil_19 (by decide) ?_
  refine am_icmp_le F (tgt := 26) dX3_waitUntil_21 (by decide) (fun c15 => ?_) (fun c15 => ?_)
  · have h := (if_pos c15).symm.trans h
    refine am_aload_n F 2 dX3_waitUntil_26 rfl rfl ?_
    refine gf_X3_12 F lyk_157 dX3_waitUntil_27 ?_
    refine gf_X3_122 F lyk_158 dX3_waitUntil_30 ?_
    refine am_iconst F (v := (1 : Int32)) dX3_waitUntil_33 (by decide) ?_
    refine am_iadd F dX3_waitUntil_34 ?_
    refine am_istore F [(4, .int ((am_g M2 158 3) + (1 : Int32))), (3, .int v3), (2, .int (a1 - (am_g M 1 4))), (0, .ref (z + 157)), (1, .int a1)] dX3_waitUntil_35 (by decide) rfl ?_
    obtain ⟨x11, M12, h13, h⟩ := am_bE h
    refine am_sub (lv' := [(0, .ref (z + 157)), (2, .int (a1 - (am_g M 1 4))), (3, .int v3), (4, .int ((am_g M2 158 3) + (1 : Int32)))]) [3, 2, 1, 0] rfl (cl_X3_waitUntil_L37 F (a1 - (am_g M 1 4)) v3 am_fu ((am_g M2 158 3) + (1 : Int32)) M2 x11 M12 h13 ⟨fun c14 => ?_, fun c14 => ?_⟩)
    · have h := (if_pos c14).symm.trans h
      refine am_iconst F (v := (0 : Int32)) dX3_waitUntil_56 (by decide) ?_
      exact am_zret F hr (by decide) h dX3_waitUntil_57
    · have h := (if_neg (by rw [c14]; decide)).symm.trans h
      refine am_iconst F (v := (1 : Int32)) dX3_waitUntil_73 (by decide) ?_
      exact am_zret F hr (by decide) h dX3_waitUntil_74
  · have h := (if_neg c15).symm.trans h
    refine am_iconst F (v := (0 : Int32)) dX3_waitUntil_24 (by decide) ?_
    exact am_zret F hr (by decide) h dX3_waitUntil_25
/-! AisleScheduler$Planner.findService(II)I -/
abbrev rm_X3_findService : Room := { frames := 5, cells := 0, slots := 0, locals := 133 }
theorem yn_X3_findService : am_yn yX3_findService 2 := ⟨⟨by decide +kernel, by decide +kernel⟩, by decide +kernel⟩
def g_X3_findService (a1 : Int32) (a2 : Int32) (M : am_M) : Option (Int32 × am_M) := (am_b (g_X8_taskOf 1 a1 M) (fun v3 M2 => (am_b (g_X8_isInLift 1 a2 M2) (fun v6 M5 => (if v6 = (0 : Int32) then (am_b (g_X0_begin 158 1 a2 (-1 : Int32) M5) (fun _ M8 => (am_b (g_X0_extend 158 (am_g M8 v3 0) (0 : Int32) M8) (fun v11 M10 => (if v11 = (0 : Int32) then (some ((2 : Int32), M10)) else (am_b (g_X3_waitUntil (am_g M10 v3 2) M10) (fun v14 M13 => (if v14 = (0 : Int32) then (some ((3 : Int32), M13)) else (am_b (g_X0_extend 158 (am_g M13 v3 1) (1 : Int32) M13) (fun v17 M16 => (if v17 = (0 : Int32) then (some ((4 : Int32), M16)) else (if ((am_g M16 1 4) + (am_g M16 158 3)) ≤ (am_g M16 v3 3) then (am_b (g_X3_isAffordable a2 M16) (fun v20 M19 => (if v20 = (0 : Int32) then (some ((6 : Int32), M19)) else (some ((0 : Int32), M19))))) else (some ((5 : Int32), M16)))))))))))))) else (some ((1 : Int32), M5)))))))
set_option maxHeartbeats 4000000 in
set_option maxRecDepth 100000 in
theorem c_X3_findService (l : Launch) (D : va_G) (E : Nat → ClassId) (z : Nat) (a1 : Int32) (a2 : Int32) (M : am_M) (r0 : Int32) (M1 : am_M) (h : g_X3_findService a1 a2 M = some (r0, M1)) : am_Mi l yX3_findService cX3_findService 4 (some .int) rm_X3_findService D E z [.ref (z + 157), .int a1, .int a2] M r0 M1 := by
  unfold g_X3_findService at h
  refine am_of (own := RX3) (by decide +kernel) rfl (by exact Nat.le_of_ble_eq_true rfl) ?_
  intro p e s m args below meth c F hr
  show am_W p l e rm_X3_findService s m args below meth c _ 4 D E z 0 0 M 0 [(0, .ref (z + 157)), (1, .int a1), (2, .int a2)] []
  refine am_aload_n F 0 dX3_findService_0 rfl rfl ?_
  refine gf_X3_18 F lyk_157 dX3_findService_1 ?_
  refine am_iload_n F 1 dX3_findService_4 rfl rfl ?_
  obtain ⟨v3, M2, h1, h⟩ := am_bE h
  refine am_callVr F [.int a1] lyk_1 (by decide) rfl cw_X3_125 (c_X8_taskOf l D E z 1 lyk_1 a1 M v3 M2 h1) yn_X8_taskOf rfl ⟨Nat.le_of_ble_eq_true rfl, Nat.le_of_ble_eq_true rfl⟩ rfl rfl (Nat.le_of_ble_eq_true rfl) ⟨Nat.zero_le _, Nat.zero_le _⟩ dX3_findService_5 rfl ?_
  refine am_astore_n F [(3, .ref (z + v3)), (0, .ref (z + 157)), (1, .int a1), (2, .int a2)] dX3_findService_8 rfl (by decide) rfl ?_
  refine am_aload_n F 1 dX3_findService_9 rfl rfl ?_
  refine gf_X3_18 F lyk_157 dX3_findService_10 ?_
  refine am_iload_n F 3 dX3_findService_13 rfl rfl ?_
  obtain ⟨v6, M5, h4, h⟩ := am_bE h
  refine am_callVi F [.int a2] lyk_1 (by decide) rfl cw_X3_129 (c_X8_isInLift l D E z 1 lyk_1 a2 M2 v6 M5 h4) yn_X8_isInLift rfl ⟨Nat.le_of_ble_eq_true rfl, Nat.le_of_ble_eq_true rfl⟩ rfl rfl (Nat.le_of_ble_eq_true rfl) ⟨Nat.zero_le _, Nat.zero_le _⟩ dX3_findService_14 rfl ?_
  refine am_if_eq F (tgt := 22) dX3_findService_17 (by decide) (fun c26 => ?_) (fun c26 => ?_)
  · have h := (if_pos c26).symm.trans h
    refine am_aload_n F 1 dX3_findService_22 rfl rfl ?_
    refine gf_X3_33 F lyk_157 dX3_findService_23 ?_
    refine am_aload_n F 1 dX3_findService_26 rfl rfl ?_
    refine gf_X3_12 F lyk_157 dX3_findService_27 ?_
    refine am_aload_n F 1 dX3_findService_30 rfl rfl ?_
    refine gf_X3_18 F lyk_157 dX3_findService_31 ?_
    refine am_iload_n F 3 dX3_findService_34 rfl rfl ?_
    refine am_iconst F (v := (-1 : Int32)) dX3_findService_35 (by decide) ?_
    obtain ⟨_, M8, h7, h⟩ := am_bE h
    refine am_callVv F [.ref (z + 158), .ref (z + 1), .int a2, .int (-1 : Int32)] lyk_161 (by decide) rfl cw_X3_37 (c_X0_begin l D E z 158 lyk_158 1 lyk_1 a2 (-1 : Int32) M5 M8 h7) yn_X0_begin rfl ⟨Nat.le_of_ble_eq_true rfl, Nat.le_of_ble_eq_true rfl⟩ rfl rfl (Nat.le_of_ble_eq_true rfl) ⟨Nat.zero_le _, Nat.zero_le _⟩ dX3_findService_36 rfl ?_
    refine am_aload_n F 1 dX3_findService_39 rfl rfl ?_
    refine gf_X3_33 F lyk_157 dX3_findService_40 ?_
    refine am_aload_n F 1 dX3_findService_43 rfl rfl ?_
    refine gf_X3_12 F lyk_157 dX3_findService_44 ?_
    refine am_aload_n F 0 dX3_findService_47 rfl rfl ?_
    refine gf_X3_132 F (q_X8_taskOf 1 lyk_1 a1 M v3 M2 h1) dX3_findService_48 ?_
    refine am_iconst F (v := (0 : Int32)) dX3_findService_51 (by decide) ?_
    obtain ⟨v11, M10, h9, h⟩ := am_bE h
    refine am_callVi F [.ref (z + 158), .int (am_g M8 v3 0), .int (0 : Int32)] lyk_161 (by decide) rfl cw_X3_41 (c_X0_extend l D E z 158 lyk_158 (am_g M8 v3 0) (0 : Int32) M8 v11 M10 h9) yn_X0_extend rfl ⟨Nat.le_of_ble_eq_true rfl, Nat.le_of_ble_eq_true rfl⟩ rfl rfl (Nat.le_of_ble_eq_true rfl) ⟨Nat.zero_le _, Nat.zero_le _⟩ dX3_findService_52 rfl ?_
    refine am_if_ne F (tgt := 60) dX3_findService_55 (by decide) (fun c25 => ?_) (fun c25 => ?_)
    · have h := (if_neg c25).symm.trans h
      refine am_aload_n F 1 dX3_findService_60 rfl rfl ?_
      refine am_aload_n F 0 dX3_findService_61 rfl rfl ?_
      refine gf_X3_137 F (q_X8_taskOf 1 lyk_1 a1 M v3 M2 h1) dX3_findService_62 ?_
      obtain ⟨v14, M13, h12, h⟩ := am_bE h
      refine am_callVi F [.int (am_g M10 v3 2)] lyk_157 (by decide) rfl cw_X3_140 (c_X3_waitUntil l D E z (am_g M10 v3 2) M10 v14 M13 h12) yn_X3_waitUntil rfl ⟨Nat.le_of_ble_eq_true rfl, Nat.le_of_ble_eq_true rfl⟩ rfl rfl (Nat.le_of_ble_eq_true rfl) ⟨Nat.zero_le _, Nat.zero_le _⟩ dX3_findService_65 rfl ?_
      refine am_if_ne F (tgt := 73) dX3_findService_68 (by decide) (fun c24 => ?_) (fun c24 => ?_)
      · have h := (if_neg c24).symm.trans h
        refine am_aload_n F 1 dX3_findService_73 rfl rfl ?_
        refine gf_X3_33 F lyk_157 dX3_findService_74 ?_
        refine am_aload_n F 1 dX3_findService_77 rfl rfl ?_
        refine gf_X3_12 F lyk_157 dX3_findService_78 ?_
        refine am_aload_n F 0 dX3_findService_81 rfl rfl ?_
        refine gf_X3_143 F (q_X8_taskOf 1 lyk_1 a1 M v3 M2 h1) dX3_findService_82 ?_
        refine am_iconst F (v := (1 : Int32)) dX3_findService_85 (by decide) ?_
        obtain ⟨v17, M16, h15, h⟩ := am_bE h
        refine am_callVi F [.ref (z + 158), .int (am_g M13 v3 1), .int (1 : Int32)] lyk_161 (by decide) rfl cw_X3_41 (c_X0_extend l D E z 158 lyk_158 (am_g M13 v3 1) (1 : Int32) M13 v17 M16 h15) yn_X0_extend rfl ⟨Nat.le_of_ble_eq_true rfl, Nat.le_of_ble_eq_true rfl⟩ rfl rfl (Nat.le_of_ble_eq_true rfl) ⟨Nat.zero_le _, Nat.zero_le _⟩ dX3_findService_86 rfl ?_
        refine am_if_ne F (tgt := 94) dX3_findService_89 (by decide) (fun c23 => ?_) (fun c23 => ?_)
        · have h := (if_neg c23).symm.trans h
          refine am_aload_n F 1 dX3_findService_94 rfl rfl ?_
          refine gf_X3_18 F lyk_157 dX3_findService_95 ?_
          refine gf_X3_97 F lyk_1 dX3_findService_98 ?_
          refine am_aload_n F 1 dX3_findService_101 rfl rfl ?_
          refine gf_X3_12 F lyk_157 dX3_findService_102 ?_
          refine gf_X3_122 F lyk_158 dX3_findService_105 ?_
          refine am_iadd F dX3_findService_108 ?_
          refine am_aload_n F 0 dX3_findService_109 rfl rfl ?_
          refine gf_X3_146 F (q_X8_taskOf 1 lyk_1 a1 M v3 M2 h1) dX3_findService_110 ?_
          refine am_icmp_le F (tgt := 118) dX3_findService_113 (by decide) (fun c22 => ?_) (fun c22 => ?_)
          · have h := (if_pos c22).symm.trans h
            refine am_aload_n F 1 dX3_findService_118 rfl rfl ?_
            refine am_iload_n F 3 dX3_findService_119 rfl rfl ?_
            obtain ⟨v20, M19, h18, h⟩ := am_bE h
            refine am_callVi F [.int a2] lyk_157 (by decide) rfl cw_X3_66 (c_X3_isAffordable l D E z a2 M16 v20 M19 h18) yn_X3_isAffordable rfl ⟨Nat.le_of_ble_eq_true rfl, Nat.le_of_ble_eq_true rfl⟩ rfl rfl (Nat.le_of_ble_eq_true rfl) ⟨Nat.zero_le _, Nat.zero_le _⟩ dX3_findService_120 rfl ?_
            refine am_if_eq F (tgt := 130) dX3_findService_123 (by decide) (fun c21 => ?_) (fun c21 => ?_)
            · have h := (if_pos c21).symm.trans h
              refine am_bipush F (v := (6 : Int32)) dX3_findService_130 (by decide) ?_
              exact am_iret F hr h dX3_findService_132
            · have h := (if_neg c21).symm.trans h
              refine am_iconst F (v := (0 : Int32)) dX3_findService_126 (by decide) ?_
              refine am_goto F (tgt := 132) dX3_findService_127 (by decide) ?_
              exact am_iret F hr h dX3_findService_132
          · have h := (if_neg c22).symm.trans h
            refine am_iconst F (v := (5 : Int32)) dX3_findService_116 (by decide) ?_
            exact am_iret F hr h dX3_findService_117
        · have h := (if_pos c23).symm.trans h
          refine am_iconst F (v := (4 : Int32)) dX3_findService_92 (by decide) ?_
          exact am_iret F hr h dX3_findService_93
      · have h := (if_pos c24).symm.trans h
        refine am_iconst F (v := (3 : Int32)) dX3_findService_71 (by decide) ?_
        exact am_iret F hr h dX3_findService_72
    · have h := (if_pos c25).symm.trans h
      refine am_iconst F (v := (2 : Int32)) dX3_findService_58 (by decide) ?_
      exact am_iret F hr h dX3_findService_59
  · have h := (if_neg c26).symm.trans h
    refine am_iconst F (v := (1 : Int32)) dX3_findService_20 (by decide) ?_
    exact am_iret F hr h dX3_findService_21
/-! AisleScheduler$Planner.letServe(II)I -/
abbrev rm_X3_letServe : Room := { frames := 6, cells := 0, slots := 0, locals := 156 }
theorem yn_X3_letServe : am_yn yX3_letServe 2 := ⟨⟨by decide +kernel, by decide +kernel⟩, by decide +kernel⟩
def g_X3_letServe (a1 : Int32) (a2 : Int32) (M : am_M) : Option (Int32 × am_M) := (am_b (g_X3_findService a1 a2 M) (fun v3 M2 => (if v3 = (0 : Int32) then (am_b (g_X3_adopt a2 a1 M2) (fun _ M10 => (am_b (g_X8_taskOf 1 a1 M10) (fun v13 M12 => (am_b (g_X7_become v13 (1 : Int32) (0 : Int32) a2 M12) (fun _ M15 => (some (v3, M15)))))))) else (am_b (g_X8_taskOf 1 a1 M2) (fun v6 M5 => (am_b (g_X7_become v6 (3 : Int32) v3 (-1 : Int32) M5) (fun _ M8 => (some (v3, M8)))))))))
set_option maxHeartbeats 4000000 in
set_option maxRecDepth 100000 in
theorem c_X3_letServe (l : Launch) (D : va_G) (E : Nat → ClassId) (z : Nat) (a1 : Int32) (a2 : Int32) (M : am_M) (r0 : Int32) (M1 : am_M) (h : g_X3_letServe a1 a2 M = some (r0, M1)) : am_Mi l yX3_letServe cX3_letServe 4 (some .int) rm_X3_letServe D E z [.ref (z + 157), .int a1, .int a2] M r0 M1 := by
  unfold g_X3_letServe at h
  refine am_of (own := RX3) (by decide +kernel) rfl (by exact Nat.le_of_ble_eq_true rfl) ?_
  intro p e s m args below meth c F hr
  show am_W p l e rm_X3_letServe s m args below meth c _ 4 D E z 0 0 M 0 [(0, .ref (z + 157)), (1, .int a1), (2, .int a2)] []
  refine am_aload_n F 0 dX3_letServe_0 rfl rfl ?_
  refine am_iload_n F 1 dX3_letServe_1 rfl rfl ?_
  refine am_iload_n F 2 dX3_letServe_2 rfl rfl ?_
  obtain ⟨v3, M2, h1, h⟩ := am_bE h
  refine am_callVi F [.int a1, .int a2] lyk_157 (by decide) rfl cw_X3_159 (c_X3_findService l D E z a1 a2 M v3 M2 h1) yn_X3_findService rfl ⟨Nat.le_of_ble_eq_true rfl, Nat.le_of_ble_eq_true rfl⟩ rfl rfl (Nat.le_of_ble_eq_true rfl) ⟨Nat.zero_le _, Nat.zero_le _⟩ dX3_letServe_3 rfl ?_
  refine am_istore_n F [(3, .int v3), (0, .ref (z + 157)), (1, .int a1), (2, .int a2)] dX3_letServe_6 rfl (by decide) rfl ?_
  refine am_iload_n F 0 dX3_letServe_7 rfl rfl ?_
  refine am_if_ne F (tgt := 34) dX3_letServe_8 (by decide) (fun c16 => ?_) (fun c16 => ?_)
  · have h := (if_neg c16).symm.trans h
    refine am_aload_n F 1 dX3_letServe_34 rfl rfl ?_
    refine gf_X3_18 F lyk_157 dX3_letServe_35 ?_
    refine am_iload_n F 2 dX3_letServe_38 rfl rfl ?_
    obtain ⟨v6, M5, h4, h⟩ := am_bE h
    refine am_callVr F [.int a1] lyk_1 (by decide) rfl cw_X3_125 (c_X8_taskOf l D E z 1 lyk_1 a1 M2 v6 M5 h4) yn_X8_taskOf rfl ⟨Nat.le_of_ble_eq_true rfl, Nat.le_of_ble_eq_true rfl⟩ rfl rfl (Nat.le_of_ble_eq_true rfl) ⟨Nat.zero_le _, Nat.zero_le _⟩ dX3_letServe_39 rfl ?_
    refine am_iconst F (v := (3 : Int32)) dX3_letServe_42 (by decide) ?_
    refine am_iload_n F 0 dX3_letServe_43 rfl rfl ?_
    refine am_iconst F (v := (-1 : Int32)) dX3_letServe_44 (by decide) ?_
    obtain ⟨_, M8, h7, h⟩ := am_bE h
    refine am_callVv F [.int (3 : Int32), .int v3, .int (-1 : Int32)] (q_X8_taskOf 1 lyk_1 a1 M2 v6 M5 h4) (by decide) rfl cw_X3_163 (c_X7_become l D E z v6 (q_X8_taskOf 1 lyk_1 a1 M2 v6 M5 h4) (3 : Int32) v3 (-1 : Int32) M5 M8 h7) yn_X7_become rfl ⟨Nat.le_of_ble_eq_true rfl, Nat.le_of_ble_eq_true rfl⟩ rfl rfl (Nat.le_of_ble_eq_true rfl) ⟨Nat.zero_le _, Nat.zero_le _⟩ dX3_letServe_45 rfl ?_
    refine am_iload_n F 0 dX3_letServe_48 rfl rfl ?_
    exact am_iret F hr h dX3_letServe_49
  · have h := (if_pos c16).symm.trans h
    refine am_aload_n F 1 dX3_letServe_11 rfl rfl ?_
    refine am_iload_n F 3 dX3_letServe_12 rfl rfl ?_
    refine am_iload_n F 2 dX3_letServe_13 rfl rfl ?_
    obtain ⟨_, M10, h9, h⟩ := am_bE h
    refine am_callVv F [.int a2, .int a1] lyk_157 (by decide) rfl cw_X3_104 (c_X3_adopt l D E z a2 a1 M2 M10 h9) yn_X3_adopt rfl ⟨Nat.le_of_ble_eq_true rfl, Nat.le_of_ble_eq_true rfl⟩ rfl rfl (Nat.le_of_ble_eq_true rfl) ⟨Nat.zero_le _, Nat.zero_le _⟩ dX3_letServe_14 rfl ?_
    refine am_aload_n F 1 dX3_letServe_17 rfl rfl ?_
    refine gf_X3_18 F lyk_157 dX3_letServe_18 ?_
    refine am_iload_n F 2 dX3_letServe_21 rfl rfl ?_
    obtain ⟨v13, M12, h11, h⟩ := am_bE h
    refine am_callVr F [.int a1] lyk_1 (by decide) rfl cw_X3_125 (c_X8_taskOf l D E z 1 lyk_1 a1 M10 v13 M12 h11) yn_X8_taskOf rfl ⟨Nat.le_of_ble_eq_true rfl, Nat.le_of_ble_eq_true rfl⟩ rfl rfl (Nat.le_of_ble_eq_true rfl) ⟨Nat.zero_le _, Nat.zero_le _⟩ dX3_letServe_22 rfl ?_
    refine am_iconst F (v := (1 : Int32)) dX3_letServe_25 (by decide) ?_
    refine am_iconst F (v := (0 : Int32)) dX3_letServe_26 (by decide) ?_
    refine am_iload_n F 3 dX3_letServe_27 rfl rfl ?_
    obtain ⟨_, M15, h14, h⟩ := am_bE h
    refine am_callVv F [.int (1 : Int32), .int (0 : Int32), .int a2] (q_X8_taskOf 1 lyk_1 a1 M10 v13 M12 h11) (by decide) rfl cw_X3_163 (c_X7_become l D E z v13 (q_X8_taskOf 1 lyk_1 a1 M10 v13 M12 h11) (1 : Int32) (0 : Int32) a2 M12 M15 h14) yn_X7_become rfl ⟨Nat.le_of_ble_eq_true rfl, Nat.le_of_ble_eq_true rfl⟩ rfl rfl (Nat.le_of_ble_eq_true rfl) ⟨Nat.zero_le _, Nat.zero_le _⟩ dX3_letServe_28 rfl ?_
    refine am_goto F (tgt := 48) dX3_letServe_31 (by decide) ?_
    refine am_iload_n F 0 dX3_letServe_48 rfl rfl ?_
    exact am_iret F hr h dX3_letServe_49
/-! AisleScheduler$Planner.bestFor(IZ)I -/
abbrev rm_X3_bestFor : Room := { frames := 6, cells := 0, slots := 0, locals := 156 }
theorem yn_X3_bestFor : am_yn yX3_bestFor 2 := ⟨⟨by decide +kernel, by decide +kernel⟩, by decide +kernel⟩
def g_X3_bestFor_J42 (rc : Int32 → Int32 → Int32 → am_M → Option ((Int32) × am_M)) (a1 : Int32) (a2 : Int32) (a3 : Int32) (a4 : Int32) (a5 : Int32) (as0 : Int32) (M : am_M) : Option ((Int32) × am_M) := (if as0 = (0 : Int32) then (rc a3 a4 (a5 + (1 : Int32)) M) else (am_b (g_X3_findService a1 a5 M) (fun v3 M2 => (if v3 = (0 : Int32) then (if a4 ≤ (am_g M2 158 3) then (rc a3 a4 (a5 + (1 : Int32)) M2) else (rc a5 (am_g M2 158 3) (a5 + (1 : Int32)) M2)) else (rc a3 a4 (a5 + (1 : Int32)) M2)))))
set_option maxHeartbeats 4000000 in
set_option maxRecDepth 100000 in
theorem cj_X3_bestFor_J42 {l : Launch} {p : Program} {e : Env} {s : State} {m : MethodId} {args : Array Value} {below : List Frame} {meth : Method} {c : Code} {Q : State → Prop} {D : va_G} {E : Nat → ClassId} {z : Nat} (F : am_F p s m args meth c cX3_bestFor 7 RX3 D E z) (rc : Int32 → Int32 → Int32 → am_M → Option ((Int32) × am_M)) (a1 : Int32) (a2 : Int32) (a3 : Int32) (a4 : Int32) (a5 : Int32) (as0 : Int32) (M : am_M) (x : Int32) (M1 : am_M) (h : g_X3_bestFor_J42 rc a1 a2 a3 a4 a5 as0 M = some (x, M1)) (HR : ∀ (b3 : Int32) (b4 : Int32) (b5 : Int32) (M2 : am_M), rc b3 b4 b5 M2 = some (x, M1) → am_W p l e rm_X3_bestFor s m args below meth c Q 7 D E z 0 0 M2 9 [(0, .ref (z + 157)), (1, .int a1), (2, .int a2), (3, .int b3), (4, .int b4), (5, .int b5)] []) (K : am_W p l e rm_X3_bestFor s m args below meth c Q 7 D E z 0 0 M1 89 [(3, .int x)] []) : am_W p l e rm_X3_bestFor s m args below meth c Q 7 D E z 0 0 M 42 [(0, .ref (z + 157)), (1, .int a1), (2, .int a2), (3, .int a3), (4, .int a4), (5, .int a5)] [.int as0] := by
  unfold g_X3_bestFor_J42 at h
  refine am_istore F [(6, .int as0), (0, .ref (z + 157)), (1, .int a1), (2, .int a2), (3, .int a3), (4, .int a4), (5, .int a5)] dX3_bestFor_42 (by decide) rfl ?_
  refine am_iload F 0 dX3_bestFor_44 rfl ?_
  refine am_if_eq F (tgt := 83) dX3_bestFor_46 (by decide) (fun c6 => ?_) (fun c6 => ?_)
  · have h := (if_pos c6).symm.trans h
    refine am_iinc F [(5, .int (a5 + (1 : Int32))), (6, .int as0), (0, .ref (z + 157)), (1, .int a1), (2, .int a2), (3, .int a3), (4, .int a4)] 6 dX3_bestFor_83 (by decide) rfl rfl rfl ?_
    refine am_goto F (tgt := 9) dX3_bestFor_86 (by decide) ?_
    exact am_sub (lv' := [(0, .ref (z + 157)), (1, .int a1), (2, .int a2), (3, .int a3), (4, .int a4), (5, .int (a5 + (1 : Int32)))]) [2, 3, 4, 5, 6, 0] rfl (HR a3 a4 (a5 + (1 : Int32)) M h)
  · have h := (if_neg c6).symm.trans h
    refine am_aload_n F 1 dX3_bestFor_49 rfl rfl ?_
    refine am_iload_n F 2 dX3_bestFor_50 rfl rfl ?_
    refine am_iload F 6 dX3_bestFor_51 rfl ?_
    obtain ⟨v3, M2, h1, h⟩ := am_bE h
    refine am_callVi F [.int a1, .int a5] lyk_157 (by decide) rfl cw_X3_159 (c_X3_findService l D E z a1 a5 M v3 M2 h1) yn_X3_findService rfl ⟨Nat.le_of_ble_eq_true rfl, Nat.le_of_ble_eq_true rfl⟩ rfl rfl (Nat.le_of_ble_eq_true rfl) ⟨Nat.zero_le _, Nat.zero_le _⟩ dX3_bestFor_53 rfl ?_
    refine am_if_ne F (tgt := 83) dX3_bestFor_56 (by decide) (fun c5 => ?_) (fun c5 => ?_)
    · have h := (if_neg c5).symm.trans h
      refine am_iinc F [(5, .int (a5 + (1 : Int32))), (6, .int as0), (0, .ref (z + 157)), (1, .int a1), (2, .int a2), (3, .int a3), (4, .int a4)] 6 dX3_bestFor_83 (by decide) rfl rfl rfl ?_
      refine am_goto F (tgt := 9) dX3_bestFor_86 (by decide) ?_
      exact am_sub (lv' := [(0, .ref (z + 157)), (1, .int a1), (2, .int a2), (3, .int a3), (4, .int a4), (5, .int (a5 + (1 : Int32)))]) [2, 3, 4, 5, 6, 0] rfl (HR a3 a4 (a5 + (1 : Int32)) M2 h)
    · have h := (if_pos c5).symm.trans h
      refine am_aload_n F 1 dX3_bestFor_59 rfl rfl ?_
      refine gf_X3_12 F lyk_157 dX3_bestFor_60 ?_
      refine gf_X3_122 F lyk_158 dX3_bestFor_63 ?_
      refine am_iload F 5 dX3_bestFor_66 rfl ?_
      refine am_icmp_ge F (tgt := 83) dX3_bestFor_68 (by decide) (fun c4 => ?_) (fun c4 => ?_)
      · have h := (if_pos c4).symm.trans h
        refine am_iinc F [(5, .int (a5 + (1 : Int32))), (6, .int as0), (0, .ref (z + 157)), (1, .int a1), (2, .int a2), (3, .int a3), (4, .int a4)] 6 dX3_bestFor_83 (by decide) rfl rfl rfl ?_
        refine am_goto F (tgt := 9) dX3_bestFor_86 (by decide) ?_
        exact am_sub (lv' := [(0, .ref (z + 157)), (1, .int a1), (2, .int a2), (3, .int a3), (4, .int a4), (5, .int (a5 + (1 : Int32)))]) [2, 3, 4, 5, 6, 0] rfl (HR a3 a4 (a5 + (1 : Int32)) M2 h)
      · have h := (if_neg c4).symm.trans h
        refine am_iload F 6 dX3_bestFor_71 rfl ?_
        refine am_istore_n F [(3, .int a5), (6, .int as0), (0, .ref (z + 157)), (1, .int a1), (2, .int a2), (4, .int a4), (5, .int a5)] dX3_bestFor_73 rfl (by decide) rfl ?_
        refine am_aload_n F 2 dX3_bestFor_74 rfl rfl ?_
        refine gf_X3_12 F lyk_157 dX3_bestFor_75 ?_
        refine gf_X3_122 F lyk_158 dX3_bestFor_78 ?_
        refine am_istore F [(4, .int (am_g M2 158 3)), (3, .int a5), (6, .int as0), (0, .ref (z + 157)), (1, .int a1), (2, .int a2), (5, .int a5)] dX3_bestFor_81 (by decide) rfl ?_
        refine am_iinc F [(5, .int (a5 + (1 : Int32))), (4, .int (am_g M2 158 3)), (3, .int a5), (6, .int as0), (0, .ref (z + 157)), (1, .int a1), (2, .int a2)] 6 dX3_bestFor_83 (by decide) rfl rfl rfl ?_
        refine am_goto F (tgt := 9) dX3_bestFor_86 (by decide) ?_
        exact am_sub (lv' := [(0, .ref (z + 157)), (1, .int a1), (2, .int a2), (3, .int a5), (4, .int (am_g M2 158 3)), (5, .int (a5 + (1 : Int32)))]) [4, 5, 6, 2, 1, 0] rfl (HR a5 (am_g M2 158 3) (a5 + (1 : Int32)) M2 h)
def g_X3_bestFor_L9 (a1 : Int32) (a2 : Int32) : Nat → Int32 → Int32 → Int32 → am_M → Option ((Int32) × am_M)
  | 0, _, _, _, _ => none
  | n + 1, a3, a4, a5, M => (if (am_g M 1 2) ≤ a5 then (some (a3, M)) else (if a2 = (0 : Int32) then (g_X3_bestFor_J42 (g_X3_bestFor_L9 a1 a2 n) a1 a2 a3 a4 a5 (1 : Int32) M) else (am_b (g_X8_isIdle 1 a5 M) (fun v9 M8 => (if v9 = (0 : Int32) then (g_X3_bestFor_J42 (g_X3_bestFor_L9 a1 a2 n) a1 a2 a3 a4 a5 (0 : Int32) M8) else (g_X3_bestFor_J42 (g_X3_bestFor_L9 a1 a2 n) a1 a2 a3 a4 a5 (1 : Int32) M8))))))
set_option maxHeartbeats 4000000 in
set_option maxRecDepth 100000 in
theorem cl_X3_bestFor_L9 {l : Launch} {p : Program} {e : Env} {s : State} {m : MethodId} {args : Array Value} {below : List Frame} {meth : Method} {c : Code} {Q : State → Prop} {D : va_G} {E : Nat → ClassId} {z : Nat} (F : am_F p s m args meth c cX3_bestFor 7 RX3 D E z) (a1 : Int32) (a2 : Int32) : ∀ (n : Nat) (a3 : Int32) (a4 : Int32) (a5 : Int32) (M : am_M) (x : Int32) (M1 : am_M), g_X3_bestFor_L9 a1 a2 n a3 a4 a5 M = some (x, M1) → (am_W p l e rm_X3_bestFor s m args below meth c Q 7 D E z 0 0 M1 89 [(3, .int x)] []) → am_W p l e rm_X3_bestFor s m args below meth c Q 7 D E z 0 0 M 9 [(0, .ref (z + 157)), (1, .int a1), (2, .int a2), (3, .int a3), (4, .int a4), (5, .int a5)] [] := by
  intro n
  induction n with
  | zero => intro a3 a4 a5 M x M1 h K; cases h
  | succ n ih =>
    intro a3 a4 a5 M x M1 h K
    rw [g_X3_bestFor_L9] at h
    refine am_iload F 5 dX3_bestFor_9 rfl ?_
    refine am_aload_n F 0 dX3_bestFor_11 rfl rfl ?_
    refine gf_X3_18 F lyk_157 dX3_bestFor_12 ?_
    refine gf_X3_88 F lyk_1 dX3_bestFor_15 ?_
    refine am_icmp_ge F (tgt := 89) dX3_bestFor_18 (by decide) (fun c12 => ?_) (fun c12 => ?_)
    · have h := (if_pos c12).symm.trans h
      cases h
      exact am_sub (lv' := [(3, .int a3)]) [3] rfl (K)
    · have h := (if_neg c12).symm.trans h
      refine am_iload_n F 2 dX3_bestFor_21 rfl rfl ?_
      refine am_if_eq F (tgt := 37) dX3_bestFor_22 (by decide) (fun c11 => ?_) (fun c11 => ?_)
      · have h := (if_pos c11).symm.trans h
        refine am_iconst F (v := (1 : Int32)) dX3_bestFor_37 (by decide) ?_
        refine am_goto F (tgt := 42) dX3_bestFor_38 (by decide) ?_
        exact am_sub (lv' := [(0, .ref (z + 157)), (1, .int a1), (2, .int a2), (3, .int a3), (4, .int a4), (5, .int a5)]) [0, 1, 2, 3, 4, 5] rfl (cj_X3_bestFor_J42 F (g_X3_bestFor_L9 a1 a2 n) a1 a2 a3 a4 a5 (1 : Int32) M _ _ h (fun b3 b4 b5 M2 h2 => ih b3 b4 b5 M2 _ _ h2 K) K)
      · have h := (if_neg c11).symm.trans h
        refine am_aload_n F 0 dX3_bestFor_25 rfl rfl ?_
        refine gf_X3_18 F lyk_157 dX3_bestFor_26 ?_
        refine am_iload F 5 dX3_bestFor_29 rfl ?_
        obtain ⟨v9, M8, h7, h⟩ := am_bE h
        refine am_callVi F [.int a5] lyk_1 (by decide) rfl cw_X3_91 (c_X8_isIdle l D E z 1 lyk_1 a5 M v9 M8 h7) yn_X8_isIdle rfl ⟨Nat.le_of_ble_eq_true rfl, Nat.le_of_ble_eq_true rfl⟩ rfl rfl (Nat.le_of_ble_eq_true rfl) ⟨Nat.zero_le _, Nat.zero_le _⟩ dX3_bestFor_31 rfl ?_
        refine am_if_eq F (tgt := 41) dX3_bestFor_34 (by decide) (fun c10 => ?_) (fun c10 => ?_)
        · have h := (if_pos c10).symm.trans h
          refine am_iconst F (v := (0 : Int32)) dX3_bestFor_41 (by decide) ?_
          exact am_sub (lv' := [(0, .ref (z + 157)), (1, .int a1), (2, .int a2), (3, .int a3), (4, .int a4), (5, .int a5)]) [0, 1, 2, 3, 4, 5] rfl (cj_X3_bestFor_J42 F (g_X3_bestFor_L9 a1 a2 n) a1 a2 a3 a4 a5 (0 : Int32) M8 _ _ h (fun b3 b4 b5 M2 h2 => ih b3 b4 b5 M2 _ _ h2 K) K)
        · have h := (if_neg c10).symm.trans h
          refine am_iconst F (v := (1 : Int32)) dX3_bestFor_37 (by decide) ?_
          refine am_goto F (tgt := 42) dX3_bestFor_38 (by decide) ?_
          exact am_sub (lv' := [(0, .ref (z + 157)), (1, .int a1), (2, .int a2), (3, .int a3), (4, .int a4), (5, .int a5)]) [0, 1, 2, 3, 4, 5] rfl (cj_X3_bestFor_J42 F (g_X3_bestFor_L9 a1 a2 n) a1 a2 a3 a4 a5 (1 : Int32) M8 _ _ h (fun b3 b4 b5 M2 h2 => ih b3 b4 b5 M2 _ _ h2 K) K)
def g_X3_bestFor (a1 : Int32) (a2 : Int32) (M : am_M) : Option (Int32 × am_M) := (am_b (g_X3_bestFor_L9 a1 a2 am_fu (-1 : Int32) (1000000 : Int32) (0 : Int32) M) (fun x13 M14 => (some (x13, M14))))
set_option maxHeartbeats 4000000 in
set_option maxRecDepth 100000 in
theorem c_X3_bestFor (l : Launch) (D : va_G) (E : Nat → ClassId) (z : Nat) (a1 : Int32) (a2 : Int32) (M : am_M) (r0 : Int32) (M1 : am_M) (h : g_X3_bestFor a1 a2 M = some (r0, M1)) : am_Mi l yX3_bestFor cX3_bestFor 7 (some .int) rm_X3_bestFor D E z [.ref (z + 157), .int a1, .int a2] M r0 M1 := by
  unfold g_X3_bestFor at h
  refine am_of (own := RX3) (by decide +kernel) rfl (by exact Nat.le_of_ble_eq_true rfl) ?_
  intro p e s m args below meth c F hr
  show am_W p l e rm_X3_bestFor s m args below meth c _ 7 D E z 0 0 M 0 [(0, .ref (z + 157)), (1, .int a1), (2, .int a2)] []
  refine am_iconst F (v := (-1 : Int32)) dX3_bestFor_0 (by decide) ?_
  refine am_istore_n F [(3, .int (-1 : Int32)), (0, .ref (z + 157)), (1, .int a1), (2, .int a2)] dX3_bestFor_1 rfl (by decide) rfl ?_
  refine am_ldc F (v := (1000000 : Int32)) dX3_bestFor_2 wd_387 ?_
  refine am_istore F [(4, .int (1000000 : Int32)), (3, .int (-1 : Int32)), (0, .ref (z + 157)), (1, .int a1), (2, .int a2)] dX3_bestFor_4 (by decide) rfl ?_
  refine am_iconst F (v := (0 : Int32)) dX3_bestFor_6 (by decide) ?_
  refine am_istore F [(5, .int (0 : Int32)), (4, .int (1000000 : Int32)), (3, .int (-1 : Int32)), (0, .ref (z + 157)), (1, .int a1), (2, .int a2)] dX3_bestFor_7 (by decide) rfl ?_
  obtain ⟨x13, M14, h15, h⟩ := am_bE h
  refine am_sub (lv' := [(0, .ref (z + 157)), (1, .int a1), (2, .int a2), (3, .int (-1 : Int32)), (4, .int (1000000 : Int32)), (5, .int (0 : Int32))]) [3, 4, 5, 2, 1, 0] rfl (cl_X3_bestFor_L9 F a1 a2 am_fu (-1 : Int32) (1000000 : Int32) (0 : Int32) M x13 M14 h15 ?_)
  refine am_iload_n F 0 dX3_bestFor_89 rfl rfl ?_
  exact am_iret F hr h dX3_bestFor_90
/-! AisleScheduler$World.rankOf(I)I -/
abbrev rm_X8_rankOf : Room := { frames := 2, cells := 0, slots := 0, locals := 46 }
theorem yn_X8_rankOf : am_yn yX8_rankOf 1 := ⟨⟨by decide +kernel, by decide +kernel⟩, by decide +kernel⟩
def g_X8_rankOf (t0 : Nat) (a1 : Int32) (M : am_M) : Option (Int32 × am_M) := (am_b (g_X8_taskOf t0 a1 M) (fun v3 M2 => (some ((((am_g M2 v3 3) * (12 : Int32)) + a1), M2))))
set_option maxHeartbeats 4000000 in
set_option maxRecDepth 100000 in
theorem c_X8_rankOf (l : Launch) (D : va_G) (E : Nat → ClassId) (z : Nat) (t0 : Nat) (y0 : am_ly t0 = (8, 0)) (a1 : Int32) (M : am_M) (r0 : Int32) (M1 : am_M) (h : g_X8_rankOf t0 a1 M = some (r0, M1)) : am_Mi l yX8_rankOf cX8_rankOf 2 (some .int) rm_X8_rankOf D E z [.ref (z + t0), .int a1] M r0 M1 := by
  unfold g_X8_rankOf at h
  refine am_of (own := RX8) (by decide +kernel) rfl (by exact Nat.le_of_ble_eq_true rfl) ?_
  intro p e s m args below meth c F hr
  show am_W p l e rm_X8_rankOf s m args below meth c _ 2 D E z 0 0 M 0 [(0, .ref (z + t0)), (1, .int a1)] []
  refine am_aload_n F 0 dX8_rankOf_0 rfl rfl ?_
  refine am_iload_n F 1 dX8_rankOf_1 rfl rfl ?_
  obtain ⟨v3, M2, h1, h⟩ := am_bE h
  refine am_callVr F [.int a1] y0 (by decide) rfl cw_X8_76 (c_X8_taskOf l D E z t0 y0 a1 M v3 M2 h1) yn_X8_taskOf rfl ⟨Nat.le_of_ble_eq_true rfl, Nat.le_of_ble_eq_true rfl⟩ rfl rfl (Nat.le_of_ble_eq_true rfl) ⟨Nat.zero_le _, Nat.zero_le _⟩ dX8_rankOf_2 rfl ?_
  refine gf_X8_179 F (q_X8_taskOf t0 y0 a1 M v3 M2 h1) dX8_rankOf_5 ?_
  refine am_bipush F (v := (12 : Int32)) dX8_rankOf_8 (by decide) ?_
  refine am_imul F dX8_rankOf_10 ?_
  refine am_iload_n F 1 dX8_rankOf_11 rfl rfl ?_
  refine am_iadd F dX8_rankOf_12 ?_
  exact am_iret F hr h dX8_rankOf_13
/-! AisleScheduler$World.nextOpenTask(I)I -/
abbrev rm_X8_nextOpenTask : Room := { frames := 3, cells := 0, slots := 0, locals := 67 }
theorem yn_X8_nextOpenTask : am_yn yX8_nextOpenTask 1 := ⟨⟨by decide +kernel, by decide +kernel⟩, by decide +kernel⟩
def g_X8_nextOpenTask_J37 (rc : Int32 → Int32 → am_M → Option ((Int32) × am_M)) (t0 : Nat) (a1 : Int32) (a2 : Int32) (a3 : Int32) (as0 : Int32) (M : am_M) : Option ((Int32) × am_M) := (if as0 = (0 : Int32) then (rc a2 (a3 + (1 : Int32)) M) else (if a2 < (0 : Int32) then (rc a3 (a3 + (1 : Int32)) M) else (am_b (g_X8_rankOf t0 a3 M) (fun v6 M5 => (am_b (g_X8_rankOf t0 a2 M5) (fun v9 M8 => (if v9 ≤ v6 then (rc a2 (a3 + (1 : Int32)) M8) else (rc a3 (a3 + (1 : Int32)) M8))))))))
set_option maxHeartbeats 4000000 in
set_option maxRecDepth 100000 in
theorem cj_X8_nextOpenTask_J37 {l : Launch} {p : Program} {e : Env} {s : State} {m : MethodId} {args : Array Value} {below : List Frame} {meth : Method} {c : Code} {Q : State → Prop} {D : va_G} {E : Nat → ClassId} {z : Nat} (F : am_F p s m args meth c cX8_nextOpenTask 5 RX8 D E z) (rc : Int32 → Int32 → am_M → Option ((Int32) × am_M)) (t0 : Nat) (y0 : am_ly t0 = (8, 0)) (a1 : Int32) (a2 : Int32) (a3 : Int32) (as0 : Int32) (M : am_M) (x : Int32) (M1 : am_M) (h : g_X8_nextOpenTask_J37 rc t0 a1 a2 a3 as0 M = some (x, M1)) (HR : ∀ (b2 : Int32) (b3 : Int32) (M2 : am_M), rc b2 b3 M2 = some (x, M1) → am_W p l e rm_X8_nextOpenTask s m args below meth c Q 5 D E z 0 0 M2 4 [(0, .ref (z + t0)), (1, .int a1), (2, .int b2), (3, .int b3)] []) (K : am_W p l e rm_X8_nextOpenTask s m args below meth c Q 5 D E z 0 0 M1 69 [(2, .int x)] []) : am_W p l e rm_X8_nextOpenTask s m args below meth c Q 5 D E z 0 0 M 37 [(0, .ref (z + t0)), (1, .int a1), (2, .int a2), (3, .int a3)] [.int as0] := by
  unfold g_X8_nextOpenTask_J37 at h
  refine am_istore F [(4, .int as0), (0, .ref (z + t0)), (1, .int a1), (2, .int a2), (3, .int a3)] dX8_nextOpenTask_37 (by decide) rfl ?_
  refine am_iload F 0 dX8_nextOpenTask_39 rfl ?_
  refine am_if_eq F (tgt := 63) dX8_nextOpenTask_41 (by decide) (fun c12 => ?_) (fun c12 => ?_)
  · have h := (if_pos c12).symm.trans h
    refine am_iinc F [(3, .int (a3 + (1 : Int32))), (4, .int as0), (0, .ref (z + t0)), (1, .int a1), (2, .int a2)] 4 dX8_nextOpenTask_63 (by decide) rfl rfl rfl ?_
    refine am_goto F (tgt := 4) dX8_nextOpenTask_66 (by decide) ?_
    exact am_sub (lv' := [(0, .ref (z + t0)), (1, .int a1), (2, .int a2), (3, .int (a3 + (1 : Int32)))]) [2, 3, 4, 0] rfl (HR a2 (a3 + (1 : Int32)) M h)
  · have h := (if_neg c12).symm.trans h
    refine am_iload_n F 3 dX8_nextOpenTask_44 rfl rfl ?_
    refine am_if_lt F (tgt := 61) dX8_nextOpenTask_45 (by decide) (fun c11 => ?_) (fun c11 => ?_)
    · have h := (if_pos c11).symm.trans h
      refine am_iload_n F 4 dX8_nextOpenTask_61 rfl rfl ?_
      refine am_istore_n F [(2, .int a3), (4, .int as0), (0, .ref (z + t0)), (1, .int a1), (3, .int a3)] dX8_nextOpenTask_62 rfl (by decide) rfl ?_
      refine am_iinc F [(3, .int (a3 + (1 : Int32))), (2, .int a3), (4, .int as0), (0, .ref (z + t0)), (1, .int a1)] 4 dX8_nextOpenTask_63 (by decide) rfl rfl rfl ?_
      refine am_goto F (tgt := 4) dX8_nextOpenTask_66 (by decide) ?_
      exact am_sub (lv' := [(0, .ref (z + t0)), (1, .int a1), (2, .int a3), (3, .int (a3 + (1 : Int32)))]) [3, 4, 1, 0] rfl (HR a3 (a3 + (1 : Int32)) M h)
    · have h := (if_neg c11).symm.trans h
      refine am_aload_n F 1 dX8_nextOpenTask_48 rfl rfl ?_
      refine am_iload_n F 4 dX8_nextOpenTask_49 rfl rfl ?_
      obtain ⟨v6, M5, h4, h⟩ := am_bE h
      refine am_callVi F [.int a3] y0 (by decide) rfl cw_X8_176 (c_X8_rankOf l D E z t0 y0 a3 M v6 M5 h4) yn_X8_rankOf rfl ⟨Nat.le_of_ble_eq_true rfl, Nat.le_of_ble_eq_true rfl⟩ rfl rfl (Nat.le_of_ble_eq_true rfl) ⟨Nat.zero_le _, Nat.zero_le _⟩ dX8_nextOpenTask_50 rfl ?_
      refine am_aload_n F 1 dX8_nextOpenTask_53 rfl rfl ?_
      refine am_iload_n F 3 dX8_nextOpenTask_54 rfl rfl ?_
      obtain ⟨v9, M8, h7, h⟩ := am_bE h
      refine am_callVi F [.int a2] y0 (by decide) rfl cw_X8_176 (c_X8_rankOf l D E z t0 y0 a2 M5 v9 M8 h7) yn_X8_rankOf rfl ⟨Nat.le_of_ble_eq_true rfl, Nat.le_of_ble_eq_true rfl⟩ rfl rfl (Nat.le_of_ble_eq_true rfl) ⟨Nat.zero_le _, Nat.zero_le _⟩ dX8_nextOpenTask_55 rfl ?_
      refine am_icmp_ge F (tgt := 63) dX8_nextOpenTask_58 (by decide) (fun c10 => ?_) (fun c10 => ?_)
      · have h := (if_pos c10).symm.trans h
        refine am_iinc F [(3, .int (a3 + (1 : Int32))), (4, .int as0), (0, .ref (z + t0)), (1, .int a1), (2, .int a2)] 4 dX8_nextOpenTask_63 (by decide) rfl rfl rfl ?_
        refine am_goto F (tgt := 4) dX8_nextOpenTask_66 (by decide) ?_
        exact am_sub (lv' := [(0, .ref (z + t0)), (1, .int a1), (2, .int a2), (3, .int (a3 + (1 : Int32)))]) [2, 3, 4, 0] rfl (HR a2 (a3 + (1 : Int32)) M8 h)
      · have h := (if_neg c10).symm.trans h
        refine am_iload_n F 4 dX8_nextOpenTask_61 rfl rfl ?_
        refine am_istore_n F [(2, .int a3), (4, .int as0), (0, .ref (z + t0)), (1, .int a1), (3, .int a3)] dX8_nextOpenTask_62 rfl (by decide) rfl ?_
        refine am_iinc F [(3, .int (a3 + (1 : Int32))), (2, .int a3), (4, .int as0), (0, .ref (z + t0)), (1, .int a1)] 4 dX8_nextOpenTask_63 (by decide) rfl rfl rfl ?_
        refine am_goto F (tgt := 4) dX8_nextOpenTask_66 (by decide) ?_
        exact am_sub (lv' := [(0, .ref (z + t0)), (1, .int a1), (2, .int a3), (3, .int (a3 + (1 : Int32)))]) [3, 4, 1, 0] rfl (HR a3 (a3 + (1 : Int32)) M8 h)
def g_X8_nextOpenTask_L4 (t0 : Nat) (a1 : Int32) : Nat → Int32 → Int32 → am_M → Option ((Int32) × am_M)
  | 0, _, _, _ => none
  | n + 1, a2, a3, M => (if (am_g M t0 3) ≤ a3 then (some (a2, M)) else (am_b (g_X8_taskOf t0 a3 M) (fun v3 M2 => (if (am_g M2 v3 5) = (0 : Int32) then (am_b (g_X8_rankOf t0 a3 M2) (fun v15 M14 => (if v15 ≤ a1 then (g_X8_nextOpenTask_J37 (g_X8_nextOpenTask_L4 t0 a1 n) t0 a1 a2 a3 (0 : Int32) M14) else (g_X8_nextOpenTask_J37 (g_X8_nextOpenTask_L4 t0 a1 n) t0 a1 a2 a3 (1 : Int32) M14)))) else (g_X8_nextOpenTask_J37 (g_X8_nextOpenTask_L4 t0 a1 n) t0 a1 a2 a3 (0 : Int32) M2)))))
set_option maxHeartbeats 4000000 in
set_option maxRecDepth 100000 in
theorem cl_X8_nextOpenTask_L4 {l : Launch} {p : Program} {e : Env} {s : State} {m : MethodId} {args : Array Value} {below : List Frame} {meth : Method} {c : Code} {Q : State → Prop} {D : va_G} {E : Nat → ClassId} {z : Nat} (F : am_F p s m args meth c cX8_nextOpenTask 5 RX8 D E z) (t0 : Nat) (y0 : am_ly t0 = (8, 0)) (a1 : Int32) : ∀ (n : Nat) (a2 : Int32) (a3 : Int32) (M : am_M) (x : Int32) (M1 : am_M), g_X8_nextOpenTask_L4 t0 a1 n a2 a3 M = some (x, M1) → (am_W p l e rm_X8_nextOpenTask s m args below meth c Q 5 D E z 0 0 M1 69 [(2, .int x)] []) → am_W p l e rm_X8_nextOpenTask s m args below meth c Q 5 D E z 0 0 M 4 [(0, .ref (z + t0)), (1, .int a1), (2, .int a2), (3, .int a3)] [] := by
  intro n
  induction n with
  | zero => intro a2 a3 M x M1 h K; cases h
  | succ n ih =>
    intro a2 a3 M x M1 h K
    rw [g_X8_nextOpenTask_L4] at h
    refine am_iload_n F 3 dX8_nextOpenTask_4 rfl rfl ?_
    refine am_aload_n F 0 dX8_nextOpenTask_5 rfl rfl ?_
    refine gf_X8_55 F y0 dX8_nextOpenTask_6 ?_
    refine am_icmp_ge F (tgt := 69) dX8_nextOpenTask_9 (by decide) (fun c18 => ?_) (fun c18 => ?_)
    · have h := (if_pos c18).symm.trans h
      cases h
      exact am_sub (lv' := [(2, .int a2)]) [2] rfl (K)
    · have h := (if_neg c18).symm.trans h
      refine am_aload_n F 0 dX8_nextOpenTask_12 rfl rfl ?_
      refine am_iload_n F 3 dX8_nextOpenTask_13 rfl rfl ?_
      obtain ⟨v3, M2, h1, h⟩ := am_bE h
      refine am_callVr F [.int a3] y0 (by decide) rfl cw_X8_76 (c_X8_taskOf l D E z t0 y0 a3 M v3 M2 h1) yn_X8_taskOf rfl ⟨Nat.le_of_ble_eq_true rfl, Nat.le_of_ble_eq_true rfl⟩ rfl rfl (Nat.le_of_ble_eq_true rfl) ⟨Nat.zero_le _, Nat.zero_le _⟩ dX8_nextOpenTask_14 rfl ?_
      refine gf_X8_173 F (q_X8_taskOf t0 y0 a3 M v3 M2 h1) dX8_nextOpenTask_17 ?_
      refine am_if_ne F (tgt := 36) dX8_nextOpenTask_20 (by decide) (fun c17 => ?_) (fun c17 => ?_)
      · have h := (if_neg c17).symm.trans h
        refine am_iconst F (v := (0 : Int32)) dX8_nextOpenTask_36 (by decide) ?_
        exact am_sub (lv' := [(0, .ref (z + t0)), (1, .int a1), (2, .int a2), (3, .int a3)]) [0, 1, 2, 3] rfl (cj_X8_nextOpenTask_J37 F (g_X8_nextOpenTask_L4 t0 a1 n) t0 y0 a1 a2 a3 (0 : Int32) M2 _ _ h (fun b2 b3 M2 h2 => ih b2 b3 M2 _ _ h2 K) K)
      · have h := (if_pos c17).symm.trans h
        refine am_aload_n F 0 dX8_nextOpenTask_23 rfl rfl ?_
        refine am_iload_n F 3 dX8_nextOpenTask_24 rfl rfl ?_
        obtain ⟨v15, M14, h13, h⟩ := am_bE h
        refine am_callVi F [.int a3] y0 (by decide) rfl cw_X8_176 (c_X8_rankOf l D E z t0 y0 a3 M2 v15 M14 h13) yn_X8_rankOf rfl ⟨Nat.le_of_ble_eq_true rfl, Nat.le_of_ble_eq_true rfl⟩ rfl rfl (Nat.le_of_ble_eq_true rfl) ⟨Nat.zero_le _, Nat.zero_le _⟩ dX8_nextOpenTask_25 rfl ?_
        refine am_iload_n F 1 dX8_nextOpenTask_28 rfl rfl ?_
        refine am_icmp_le F (tgt := 36) dX8_nextOpenTask_29 (by decide) (fun c16 => ?_) (fun c16 => ?_)
        · have h := (if_pos c16).symm.trans h
          refine am_iconst F (v := (0 : Int32)) dX8_nextOpenTask_36 (by decide) ?_
          exact am_sub (lv' := [(0, .ref (z + t0)), (1, .int a1), (2, .int a2), (3, .int a3)]) [0, 1, 2, 3] rfl (cj_X8_nextOpenTask_J37 F (g_X8_nextOpenTask_L4 t0 a1 n) t0 y0 a1 a2 a3 (0 : Int32) M14 _ _ h (fun b2 b3 M2 h2 => ih b2 b3 M2 _ _ h2 K) K)
        · have h := (if_neg c16).symm.trans h
          refine am_iconst F (v := (1 : Int32)) dX8_nextOpenTask_32 (by decide) ?_
          refine am_goto F (tgt := 37) dX8_nextOpenTask_33 (by decide) ?_
          exact am_sub (lv' := [(0, .ref (z + t0)), (1, .int a1), (2, .int a2), (3, .int a3)]) [0, 1, 2, 3] rfl (cj_X8_nextOpenTask_J37 F (g_X8_nextOpenTask_L4 t0 a1 n) t0 y0 a1 a2 a3 (1 : Int32) M14 _ _ h (fun b2 b3 M2 h2 => ih b2 b3 M2 _ _ h2 K) K)
def g_X8_nextOpenTask (t0 : Nat) (a1 : Int32) (M : am_M) : Option (Int32 × am_M) := (am_b (g_X8_nextOpenTask_L4 t0 a1 am_fu (-1 : Int32) (0 : Int32) M) (fun x19 M20 => (some (x19, M20))))
set_option maxHeartbeats 4000000 in
set_option maxRecDepth 100000 in
theorem c_X8_nextOpenTask (l : Launch) (D : va_G) (E : Nat → ClassId) (z : Nat) (t0 : Nat) (y0 : am_ly t0 = (8, 0)) (a1 : Int32) (M : am_M) (r0 : Int32) (M1 : am_M) (h : g_X8_nextOpenTask t0 a1 M = some (r0, M1)) : am_Mi l yX8_nextOpenTask cX8_nextOpenTask 5 (some .int) rm_X8_nextOpenTask D E z [.ref (z + t0), .int a1] M r0 M1 := by
  unfold g_X8_nextOpenTask at h
  refine am_of (own := RX8) (by decide +kernel) rfl (by exact Nat.le_of_ble_eq_true rfl) ?_
  intro p e s m args below meth c F hr
  show am_W p l e rm_X8_nextOpenTask s m args below meth c _ 5 D E z 0 0 M 0 [(0, .ref (z + t0)), (1, .int a1)] []
  refine am_iconst F (v := (-1 : Int32)) dX8_nextOpenTask_0 (by decide) ?_
  refine am_istore_n F [(2, .int (-1 : Int32)), (0, .ref (z + t0)), (1, .int a1)] dX8_nextOpenTask_1 rfl (by decide) rfl ?_
  refine am_iconst F (v := (0 : Int32)) dX8_nextOpenTask_2 (by decide) ?_
  refine am_istore_n F [(3, .int (0 : Int32)), (2, .int (-1 : Int32)), (0, .ref (z + t0)), (1, .int a1)] dX8_nextOpenTask_3 rfl (by decide) rfl ?_
  obtain ⟨x19, M20, h21, h⟩ := am_bE h
  refine am_sub (lv' := [(0, .ref (z + t0)), (1, .int a1), (2, .int (-1 : Int32)), (3, .int (0 : Int32))]) [2, 3, 1, 0] rfl (cl_X8_nextOpenTask_L4 F t0 y0 a1 am_fu (-1 : Int32) (0 : Int32) M x19 M20 h21 ?_)
  refine am_iload_n F 0 dX8_nextOpenTask_69 rfl rfl ?_
  exact am_iret F hr h dX8_nextOpenTask_70
/-! AisleScheduler$Planner.assignOpenTasks()I -/
abbrev rm_X3_assignOpenTasks : Room := { frames := 7, cells := 0, slots := 0, locals := 182 }
theorem yn_X3_assignOpenTasks : am_yn yX3_assignOpenTasks 0 := ⟨⟨by decide +kernel, by decide +kernel⟩, by decide +kernel⟩
def g_X3_assignOpenTasks_L6  : Nat → Int32 → Int32 → Int32 → am_M → Option ((Nat × Int32) × am_M)
  | 0, _, _, _, _ => none
  | n + 1, a1, a2, a3, M => (if (12 : Int32) ≤ a3 then (some ((73, a1), M)) else (am_b (g_X8_nextOpenTask 1 a2 M) (fun v3 M2 => (if (0 : Int32) ≤ v3 then (am_b (g_X8_rankOf 1 v3 M2) (fun v6 M5 => (am_b (g_X3_bestFor v3 (1 : Int32) M5) (fun v9 M8 => (if v9 < (0 : Int32) then (g_X3_assignOpenTasks_L6  n a1 v6 (a3 + (1 : Int32)) M8) else (am_b (g_X3_letServe v3 v9 M8) (fun v12 M11 => (if v12 = (0 : Int32) then (g_X3_assignOpenTasks_L6  n (a1 + (1 : Int32)) v6 (a3 + (1 : Int32)) M11) else (g_X3_assignOpenTasks_L6  n a1 v6 (a3 + (1 : Int32)) M11))))))))) else (some ((27, a1), M2))))))
set_option maxHeartbeats 4000000 in
set_option maxRecDepth 100000 in
theorem cl_X3_assignOpenTasks_L6 {l : Launch} {p : Program} {e : Env} {s : State} {m : MethodId} {args : Array Value} {below : List Frame} {meth : Method} {c : Code} {Q : State → Prop} {D : va_G} {E : Nat → ClassId} {z : Nat} (F : am_F p s m args meth c cX3_assignOpenTasks 6 RX3 D E z)  : ∀ (n : Nat) (a1 : Int32) (a2 : Int32) (a3 : Int32) (M : am_M) (x : Nat × Int32) (M1 : am_M), g_X3_assignOpenTasks_L6  n a1 a2 a3 M = some (x, M1) → ((x.1 = 27 → am_W p l e rm_X3_assignOpenTasks s m args below meth c Q 6 D E z 0 0 M1 27 [(1, .int x.2)] []) ∧ (x.1 = 73 → am_W p l e rm_X3_assignOpenTasks s m args below meth c Q 6 D E z 0 0 M1 73 [(1, .int x.2)] [])) → am_W p l e rm_X3_assignOpenTasks s m args below meth c Q 6 D E z 0 0 M 6 [(0, .ref (z + 157)), (1, .int a1), (2, .int a2), (3, .int a3)] [] := by
  intro n
  induction n with
  | zero => intro a1 a2 a3 M x M1 h K; cases h
  | succ n ih =>
    intro a1 a2 a3 M x M1 h K
    rw [g_X3_assignOpenTasks_L6] at h
    refine am_iload_n F 3 dX3_assignOpenTasks_6 rfl rfl ?_
    refine am_bipush F (v := (12 : Int32)) dX3_assignOpenTasks_7 (by decide) ?_
    refine am_icmp_ge F (tgt := 73) dX3_assignOpenTasks_9 (by decide) (fun c16 => ?_) (fun c16 => ?_)
    · have h := (if_pos c16).symm.trans h
      cases h
      exact am_sub (lv' := [(1, .int a1)]) [1] rfl (K.2 rfl)
    · have h := (if_neg c16).symm.trans h
      refine am_aload_n F 0 dX3_assignOpenTasks_12 rfl rfl ?_
      refine gf_X3_18 F lyk_157 dX3_assignOpenTasks_13 ?_
      refine am_iload_n F 2 dX3_assignOpenTasks_16 rfl rfl ?_
      obtain ⟨v3, M2, h1, h⟩ := am_bE h
      refine am_callVi F [.int a2] lyk_1 (by decide) rfl cw_X3_167 (c_X8_nextOpenTask l D E z 1 lyk_1 a2 M v3 M2 h1) yn_X8_nextOpenTask rfl ⟨Nat.le_of_ble_eq_true rfl, Nat.le_of_ble_eq_true rfl⟩ rfl rfl (Nat.le_of_ble_eq_true rfl) ⟨Nat.zero_le _, Nat.zero_le _⟩ dX3_assignOpenTasks_17 rfl ?_
      refine am_istore F [(4, .int v3), (0, .ref (z + 157)), (1, .int a1), (2, .int a2), (3, .int a3)] dX3_assignOpenTasks_20 (by decide) rfl ?_
      refine am_iload F 0 dX3_assignOpenTasks_22 rfl ?_
      refine am_if_ge F (tgt := 29) dX3_assignOpenTasks_24 (by decide) (fun c15 => ?_) (fun c15 => ?_)
      · have h := (if_pos c15).symm.trans h
        refine am_aload_n F 1 dX3_assignOpenTasks_29 rfl rfl ?_
        refine gf_X3_18 F lyk_157 dX3_assignOpenTasks_30 ?_
        refine am_iload F 0 dX3_assignOpenTasks_33 rfl ?_
        obtain ⟨v6, M5, h4, h⟩ := am_bE h
        refine am_callVi F [.int v3] lyk_1 (by decide) rfl cw_X3_170 (c_X8_rankOf l D E z 1 lyk_1 v3 M2 v6 M5 h4) yn_X8_rankOf rfl ⟨Nat.le_of_ble_eq_true rfl, Nat.le_of_ble_eq_true rfl⟩ rfl rfl (Nat.le_of_ble_eq_true rfl) ⟨Nat.zero_le _, Nat.zero_le _⟩ dX3_assignOpenTasks_35 rfl ?_
        refine am_istore_n F [(2, .int v6), (4, .int v3), (0, .ref (z + 157)), (1, .int a1), (3, .int a3)] dX3_assignOpenTasks_38 rfl (by decide) rfl ?_
        refine am_aload_n F 2 dX3_assignOpenTasks_39 rfl rfl ?_
        refine am_iload F 1 dX3_assignOpenTasks_40 rfl ?_
        refine am_iconst F (v := (1 : Int32)) dX3_assignOpenTasks_42 (by decide) ?_
        obtain ⟨v9, M8, h7, h⟩ := am_bE h
        refine am_callVi F [.int v3, .int (1 : Int32)] lyk_157 (by decide) rfl cw_X3_173 (c_X3_bestFor l D E z v3 (1 : Int32) M5 v9 M8 h7) yn_X3_bestFor rfl ⟨Nat.le_of_ble_eq_true rfl, Nat.le_of_ble_eq_true rfl⟩ rfl rfl (Nat.le_of_ble_eq_true rfl) ⟨Nat.zero_le _, Nat.zero_le _⟩ dX3_assignOpenTasks_43 rfl ?_
        refine am_istore F [(5, .int v9), (2, .int v6), (4, .int v3), (0, .ref (z + 157)), (1, .int a1), (3, .int a3)] dX3_assignOpenTasks_46 (by decide) rfl ?_
        refine am_iload F 0 dX3_assignOpenTasks_48 rfl ?_
        refine am_if_lt F (tgt := 67) dX3_assignOpenTasks_50 (by decide) (fun c14 => ?_) (fun c14 => ?_)
        · have h := (if_pos c14).symm.trans h
          refine am_iinc F [(3, .int (a3 + (1 : Int32))), (5, .int v9), (2, .int v6), (4, .int v3), (0, .ref (z + 157)), (1, .int a1)] 5 dX3_assignOpenTasks_67 (by decide) rfl rfl rfl ?_
          refine am_goto F (tgt := 6) dX3_assignOpenTasks_70 (by decide) ?_
          exact am_sub (lv' := [(0, .ref (z + 157)), (1, .int a1), (2, .int v6), (3, .int (a3 + (1 : Int32)))]) [4, 5, 2, 0] rfl (ih a1 v6 (a3 + (1 : Int32)) M8 _ _ h K)
        · have h := (if_neg c14).symm.trans h
          refine am_aload_n F 3 dX3_assignOpenTasks_53 rfl rfl ?_
          refine am_iload F 2 dX3_assignOpenTasks_54 rfl ?_
          refine am_iload F 0 dX3_assignOpenTasks_56 rfl ?_
          obtain ⟨v12, M11, h10, h⟩ := am_bE h
          refine am_callVi F [.int v3, .int v9] lyk_157 (by decide) rfl cw_X3_177 (c_X3_letServe l D E z v3 v9 M8 v12 M11 h10) yn_X3_letServe rfl ⟨Nat.le_of_ble_eq_true rfl, Nat.le_of_ble_eq_true rfl⟩ rfl rfl (Nat.le_of_ble_eq_true rfl) ⟨Nat.zero_le _, Nat.zero_le _⟩ dX3_assignOpenTasks_58 rfl ?_
          refine am_if_ne F (tgt := 67) dX3_assignOpenTasks_61 (by decide) (fun c13 => ?_) (fun c13 => ?_)
          · have h := (if_neg c13).symm.trans h
            refine am_iinc F [(3, .int (a3 + (1 : Int32))), (5, .int v9), (2, .int v6), (4, .int v3), (0, .ref (z + 157)), (1, .int a1)] 5 dX3_assignOpenTasks_67 (by decide) rfl rfl rfl ?_
            refine am_goto F (tgt := 6) dX3_assignOpenTasks_70 (by decide) ?_
            exact am_sub (lv' := [(0, .ref (z + 157)), (1, .int a1), (2, .int v6), (3, .int (a3 + (1 : Int32)))]) [4, 5, 2, 0] rfl (ih a1 v6 (a3 + (1 : Int32)) M11 _ _ h K)
          · have h := (if_pos c13).symm.trans h
            refine am_iinc F [(1, .int (a1 + (1 : Int32))), (5, .int v9), (2, .int v6), (4, .int v3), (0, .ref (z + 157)), (3, .int a3)] 4 dX3_assignOpenTasks_64 (by decide) rfl rfl rfl ?_
            refine am_iinc F [(3, .int (a3 + (1 : Int32))), (1, .int (a1 + (1 : Int32))), (5, .int v9), (2, .int v6), (4, .int v3), (0, .ref (z + 157))] 5 dX3_assignOpenTasks_67 (by decide) rfl rfl rfl ?_
            refine am_goto F (tgt := 6) dX3_assignOpenTasks_70 (by decide) ?_
            exact am_sub (lv' := [(0, .ref (z + 157)), (1, .int (a1 + (1 : Int32))), (2, .int v6), (3, .int (a3 + (1 : Int32)))]) [5, 1, 3, 0] rfl (ih (a1 + (1 : Int32)) v6 (a3 + (1 : Int32)) M11 _ _ h K)
      · have h := (if_neg c15).symm.trans h
        cases h
        exact am_sub (lv' := [(1, .int a1)]) [2] rfl (K.1 rfl)
def g_X3_assignOpenTasks  (M : am_M) : Option (Int32 × am_M) := (am_b (g_X3_assignOpenTasks_L6  am_fu (0 : Int32) (-1 : Int32) (0 : Int32) M) (fun x17 M18 => (if x17.1 = 27 then (some (x17.2, M18)) else (some (x17.2, M18)))))
set_option maxHeartbeats 4000000 in
set_option maxRecDepth 100000 in
theorem c_X3_assignOpenTasks (l : Launch) (D : va_G) (E : Nat → ClassId) (z : Nat)  (M : am_M) (r0 : Int32) (M1 : am_M) (h : g_X3_assignOpenTasks  M = some (r0, M1)) : am_Mi l yX3_assignOpenTasks cX3_assignOpenTasks 6 (some .int) rm_X3_assignOpenTasks D E z [.ref (z + 157)] M r0 M1 := by
  unfold g_X3_assignOpenTasks at h
  refine am_of (own := RX3) (by decide +kernel) rfl (by exact Nat.le_of_ble_eq_true rfl) ?_
  intro p e s m args below meth c F hr
  show am_W p l e rm_X3_assignOpenTasks s m args below meth c _ 6 D E z 0 0 M 0 [(0, .ref (z + 157))] []
  refine am_iconst F (v := (0 : Int32)) dX3_assignOpenTasks_0 (by decide) ?_
  refine am_istore_n F [(1, .int (0 : Int32)), (0, .ref (z + 157))] dX3_assignOpenTasks_1 rfl (by decide) rfl ?_
  refine am_iconst F (v := (-1 : Int32)) dX3_assignOpenTasks_2 (by decide) ?_
  refine am_istore_n F [(2, .int (-1 : Int32)), (1, .int (0 : Int32)), (0, .ref (z + 157))] dX3_assignOpenTasks_3 rfl (by decide) rfl ?_
  refine am_iconst F (v := (0 : Int32)) dX3_assignOpenTasks_4 (by decide) ?_
  refine am_istore_n F [(3, .int (0 : Int32)), (2, .int (-1 : Int32)), (1, .int (0 : Int32)), (0, .ref (z + 157))] dX3_assignOpenTasks_5 rfl (by decide) rfl ?_
  obtain ⟨x17, M18, h19, h⟩ := am_bE h
  refine am_sub (lv' := [(0, .ref (z + 157)), (1, .int (0 : Int32)), (2, .int (-1 : Int32)), (3, .int (0 : Int32))]) [3, 2, 1, 0] rfl (cl_X3_assignOpenTasks_L6 F  am_fu (0 : Int32) (-1 : Int32) (0 : Int32) M x17 M18 h19 ⟨fun c20 => ?_, fun c20 => ?_⟩)
  · have h := (if_pos c20).symm.trans h
    refine am_iload_n F 0 dX3_assignOpenTasks_27 rfl rfl ?_
    exact am_iret F hr h dX3_assignOpenTasks_28
  · have h := (if_neg (by rw [c20]; decide)).symm.trans h
    refine am_iload_n F 0 dX3_assignOpenTasks_73 rfl rfl ?_
    exact am_iret F hr h dX3_assignOpenTasks_74
/-! AisleScheduler$Robot.begin(III)V -/
abbrev rm_X4_begin : Room := { frames := 3, cells := 0, slots := 0, locals := 68 }
theorem yn_X4_begin : am_yn yX4_begin 3 := ⟨⟨by decide +kernel, by decide +kernel⟩, by decide +kernel⟩
def g_X4_begin (t0 : Nat) (a1 : Int32) (a2 : Int32) (a3 : Int32) (M : am_M) : Option (Unit × am_M) := (am_b (g_X2_restAt (t0 + 1) a1 a3 M) (fun _ M2 => (am_b (g_X9_fill (t0 + 4) 5 (0 : Int32) M2) (fun _ M4 => (some ((), (am_s (am_s (am_s M4 t0 2 a2) t0 3 (-1 : Int32)) t0 4 a3)))))))
set_option maxHeartbeats 4000000 in
set_option maxRecDepth 100000 in
theorem c_X4_begin (l : Launch) (D : va_G) (E : Nat → ClassId) (z : Nat) (t0 : Nat) (y0 : am_ly t0 = (4, 0)) (a1 : Int32) (a2 : Int32) (a3 : Int32) (M : am_M)  (M1 : am_M) (h : g_X4_begin t0 a1 a2 a3 M = some ((), M1)) : am_Mv l yX4_begin cX4_begin 4 none rm_X4_begin D E z [.ref (z + t0), .int a1, .int a2, .int a3] M M1 := by
  unfold g_X4_begin at h
  refine am_of (own := RX4) (by decide +kernel) rfl (by exact Nat.le_of_ble_eq_true rfl) ?_
  intro p e s m args below meth c F hr
  show am_W p l e rm_X4_begin s m args below meth c _ 4 D E z 0 0 M 0 [(0, .ref (z + t0)), (1, .int a1), (2, .int a2), (3, .int a3)] []
  refine am_aload_n F 0 dX4_begin_0 rfl rfl ?_
  refine gf_X4_12 F y0 dX4_begin_1 ?_
  refine am_iload_n F 1 dX4_begin_4 rfl rfl ?_
  refine am_iload_n F 3 dX4_begin_5 rfl rfl ?_
  obtain ⟨_, M2, h1, h⟩ := am_bE h
  refine am_callVv F [.int a1, .int a3] (lyf_4_plan y0) (by decide) rfl cw_X4_22 (c_X2_restAt l D E z (t0 + 1) (lyf_4_plan y0) a1 a3 M M2 h1) yn_X2_restAt rfl ⟨Nat.le_of_ble_eq_true rfl, Nat.le_of_ble_eq_true rfl⟩ rfl rfl (Nat.le_of_ble_eq_true rfl) ⟨Nat.zero_le _, Nat.zero_le _⟩ dX4_begin_6 rfl ?_
  refine am_aload_n F 0 dX4_begin_9 rfl rfl ?_
  refine gf_X4_18 F y0 dX4_begin_10 ?_
  refine am_iconst F (v := (0 : Int32)) dX4_begin_13 (by decide) ?_
  obtain ⟨_, M4, h3, h⟩ := am_bE h
  refine am_callSNv F [.ref (z + (t0 + 4)), .int (0 : Int32)] cw_X4_26  (c_X9_fill l D E z (t0 + 4) 5 (lyf_4_statistics y0) (0 : Int32) M2 M4 h3) yn_X9_fill rfl ⟨Nat.le_of_ble_eq_true rfl, Nat.le_of_ble_eq_true rfl⟩ rfl rfl (Nat.le_of_ble_eq_true rfl) ⟨Nat.zero_le _, Nat.zero_le _⟩ dX4_begin_14 rfl ?_
  refine am_aload_n F 0 dX4_begin_17 rfl rfl ?_
  refine am_iload_n F 2 dX4_begin_18 rfl rfl ?_
  refine pf_X4_30 F y0 dX4_begin_19 ?_
  refine am_aload_n F 0 dX4_begin_22 rfl rfl ?_
  refine am_iconst F (v := (-1 : Int32)) dX4_begin_23 (by decide) ?_
  refine pf_X4_34 F y0 dX4_begin_24 ?_
  refine am_aload_n F 0 dX4_begin_27 rfl rfl ?_
  refine am_iload_n F 3 dX4_begin_28 rfl rfl ?_
  refine pf_X4_37 F y0 dX4_begin_29 ?_
  exact am_vret F hr h dX4_begin_32
/-! AisleScheduler$Robot.copyFrom(LAisleScheduler$Robot;)V -/
abbrev rm_X4_copyFrom : Room := { frames := 3, cells := 0, slots := 0, locals := 67 }
theorem yn_X4_copyFrom : am_yn yX4_copyFrom 1 := ⟨⟨by decide +kernel, by decide +kernel⟩, by decide +kernel⟩
def g_X4_copyFrom (t0 : Nat) (t1 : Nat) (M : am_M) : Option (Unit × am_M) := (am_b (g_X2_copyFrom (t0 + 1) (t1 + 1) M) (fun _ M2 => (am_b (g_X9_copyRow (t1 + 4) 5 (t0 + 4) 5 M2) (fun _ M4 => (some ((), (am_s (am_s (am_s M4 t0 2 (am_g M4 t1 2)) t0 3 (am_g (am_s M4 t0 2 (am_g M4 t1 2)) t1 3)) t0 4 (am_g (am_s (am_s M4 t0 2 (am_g M4 t1 2)) t0 3 (am_g (am_s M4 t0 2 (am_g M4 t1 2)) t1 3)) t1 4))))))))
set_option maxHeartbeats 4000000 in
set_option maxRecDepth 100000 in
theorem c_X4_copyFrom (l : Launch) (D : va_G) (E : Nat → ClassId) (z : Nat) (t0 : Nat) (y0 : am_ly t0 = (4, 0)) (t1 : Nat) (y1 : am_ly t1 = (4, 0)) (M : am_M)  (M1 : am_M) (h : g_X4_copyFrom t0 t1 M = some ((), M1)) : am_Mv l yX4_copyFrom cX4_copyFrom 2 none rm_X4_copyFrom D E z [.ref (z + t0), .ref (z + t1)] M M1 := by
  unfold g_X4_copyFrom at h
  refine am_of (own := RX4) (by decide +kernel) rfl (by exact Nat.le_of_ble_eq_true rfl) ?_
  intro p e s m args below meth c F hr
  show am_W p l e rm_X4_copyFrom s m args below meth c _ 2 D E z 0 0 M 0 [(0, .ref (z + t0)), (1, .ref (z + t1))] []
  refine am_aload_n F 0 dX4_copyFrom_0 rfl rfl ?_
  refine gf_X4_12 F y0 dX4_copyFrom_1 ?_
  refine am_aload_n F 1 dX4_copyFrom_4 rfl rfl ?_
  refine gf_X4_12 F y1 dX4_copyFrom_5 ?_
  obtain ⟨_, M2, h1, h⟩ := am_bE h
  refine am_callVv F [.ref (z + (t1 + 1))] (lyf_4_plan y0) (by decide) rfl cw_X4_40 (c_X2_copyFrom l D E z (t0 + 1) (lyf_4_plan y0) (t1 + 1) (lyf_4_plan y1) M M2 h1) yn_X2_copyFrom rfl ⟨Nat.le_of_ble_eq_true rfl, Nat.le_of_ble_eq_true rfl⟩ rfl rfl (Nat.le_of_ble_eq_true rfl) ⟨Nat.zero_le _, Nat.zero_le _⟩ dX4_copyFrom_8 rfl ?_
  refine am_aload_n F 1 dX4_copyFrom_11 rfl rfl ?_
  refine gf_X4_18 F y1 dX4_copyFrom_12 ?_
  refine am_aload_n F 0 dX4_copyFrom_15 rfl rfl ?_
  refine gf_X4_18 F y0 dX4_copyFrom_16 ?_
  obtain ⟨_, M4, h3, h⟩ := am_bE h
  refine am_callSNv F [.ref (z + (t1 + 4)), .ref (z + (t0 + 4))] cw_X4_44  (c_X9_copyRow l D E z (t1 + 4) 5 (lyf_4_statistics y1) (t0 + 4) 5 (lyf_4_statistics y0) M2 M4 h3) yn_X9_copyRow rfl ⟨Nat.le_of_ble_eq_true rfl, Nat.le_of_ble_eq_true rfl⟩ rfl rfl (Nat.le_of_ble_eq_true rfl) ⟨Nat.zero_le _, Nat.zero_le _⟩ dX4_copyFrom_19 rfl ?_
  refine am_aload_n F 0 dX4_copyFrom_22 rfl rfl ?_
  refine am_aload_n F 1 dX4_copyFrom_23 rfl rfl ?_
  refine gf_X4_30 F y1 dX4_copyFrom_24 ?_
  refine pf_X4_30 F y0 dX4_copyFrom_27 ?_
  refine am_aload_n F 0 dX4_copyFrom_30 rfl rfl ?_
  refine am_aload_n F 1 dX4_copyFrom_31 rfl rfl ?_
  refine gf_X4_34 F y1 dX4_copyFrom_32 ?_
  refine pf_X4_34 F y0 dX4_copyFrom_35 ?_
  refine am_aload_n F 0 dX4_copyFrom_38 rfl rfl ?_
  refine am_aload_n F 1 dX4_copyFrom_39 rfl rfl ?_
  refine gf_X4_37 F y1 dX4_copyFrom_40 ?_
  refine pf_X4_37 F y0 dX4_copyFrom_43 ?_
  exact am_vret F hr h dX4_copyFrom_46
/-! AisleScheduler$Robot.raiseStatistic(II)V -/
abbrev rm_X4_raiseStatistic : Room := { frames := 2, cells := 0, slots := 0, locals := 46 }
theorem yn_X4_raiseStatistic : am_yn yX4_raiseStatistic 2 := ⟨⟨by decide +kernel, by decide +kernel⟩, by decide +kernel⟩
def g_X4_raiseStatistic (t0 : Nat) (a1 : Int32) (a2 : Int32) (M : am_M) : Option (Unit × am_M) := (am_b (g_X9_at (t0 + 4) 5 a1 M) (fun v3 M2 => (am_b (g_X9_put (t0 + 4) 5 a1 (v3 + a2) M2) (fun _ M5 => (some ((), M5))))))
set_option maxHeartbeats 4000000 in
set_option maxRecDepth 100000 in
theorem c_X4_raiseStatistic (l : Launch) (D : va_G) (E : Nat → ClassId) (z : Nat) (t0 : Nat) (y0 : am_ly t0 = (4, 0)) (a1 : Int32) (a2 : Int32) (M : am_M)  (M1 : am_M) (h : g_X4_raiseStatistic t0 a1 a2 M = some ((), M1)) : am_Mv l yX4_raiseStatistic cX4_raiseStatistic 3 none rm_X4_raiseStatistic D E z [.ref (z + t0), .int a1, .int a2] M M1 := by
  unfold g_X4_raiseStatistic at h
  refine am_of (own := RX4) (by decide +kernel) rfl (by exact Nat.le_of_ble_eq_true rfl) ?_
  intro p e s m args below meth c F hr
  show am_W p l e rm_X4_raiseStatistic s m args below meth c _ 3 D E z 0 0 M 0 [(0, .ref (z + t0)), (1, .int a1), (2, .int a2)] []
  refine am_aload_n F 0 dX4_raiseStatistic_0 rfl rfl ?_
  refine gf_X4_18 F y0 dX4_raiseStatistic_1 ?_
  refine am_iload_n F 1 dX4_raiseStatistic_4 rfl rfl ?_
  refine am_aload_n F 0 dX4_raiseStatistic_5 rfl rfl ?_
  refine gf_X4_18 F y0 dX4_raiseStatistic_6 ?_
  refine am_iload_n F 1 dX4_raiseStatistic_9 rfl rfl ?_
  obtain ⟨v3, M2, h1, h⟩ := am_bE h
  refine am_callSNi F [.ref (z + (t0 + 4)), .int a1] cw_X4_48  (c_X9_at l D E z (t0 + 4) 5 (lyf_4_statistics y0) a1 M v3 M2 h1) yn_X9_at rfl ⟨Nat.le_of_ble_eq_true rfl, Nat.le_of_ble_eq_true rfl⟩ rfl rfl (Nat.le_of_ble_eq_true rfl) ⟨Nat.zero_le _, Nat.zero_le _⟩ dX4_raiseStatistic_10 rfl ?_
  refine am_iload_n F 2 dX4_raiseStatistic_13 rfl rfl ?_
  refine am_iadd F dX4_raiseStatistic_14 ?_
  obtain ⟨_, M5, h4, h⟩ := am_bE h
  refine am_callSNv F [.ref (z + (t0 + 4)), .int a1, .int (v3 + a2)] cw_X4_52  (c_X9_put l D E z (t0 + 4) 5 (lyf_4_statistics y0) a1 (v3 + a2) M2 M5 h4) yn_X9_put rfl ⟨Nat.le_of_ble_eq_true rfl, Nat.le_of_ble_eq_true rfl⟩ rfl rfl (Nat.le_of_ble_eq_true rfl) ⟨Nat.zero_le _, Nat.zero_le _⟩ dX4_raiseStatistic_15 rfl ?_
  exact am_vret F hr h dX4_raiseStatistic_18
/-! AisleScheduler$Robot.spend(II)V -/
abbrev rm_X4_spend : Room := { frames := 3, cells := 0, slots := 0, locals := 68 }
theorem yn_X4_spend : am_yn yX4_spend 2 := ⟨⟨by decide +kernel, by decide +kernel⟩, by decide +kernel⟩
def g_X4_spend (t0 : Nat) (a1 : Int32) (a2 : Int32) (M : am_M) : Option (Unit × am_M) := (am_b (g_X4_raiseStatistic t0 a1 (1 : Int32) M) (fun _ M2 => (some ((), (am_s M2 t0 2 ((am_g M2 t0 2) - a2))))))
set_option maxHeartbeats 4000000 in
set_option maxRecDepth 100000 in
theorem c_X4_spend (l : Launch) (D : va_G) (E : Nat → ClassId) (z : Nat) (t0 : Nat) (y0 : am_ly t0 = (4, 0)) (a1 : Int32) (a2 : Int32) (M : am_M)  (M1 : am_M) (h : g_X4_spend t0 a1 a2 M = some ((), M1)) : am_Mv l yX4_spend cX4_spend 3 none rm_X4_spend D E z [.ref (z + t0), .int a1, .int a2] M M1 := by
  unfold g_X4_spend at h
  refine am_of (own := RX4) (by decide +kernel) rfl (by exact Nat.le_of_ble_eq_true rfl) ?_
  intro p e s m args below meth c F hr
  show am_W p l e rm_X4_spend s m args below meth c _ 3 D E z 0 0 M 0 [(0, .ref (z + t0)), (1, .int a1), (2, .int a2)] []
  refine am_aload_n F 0 dX4_spend_0 rfl rfl ?_
  refine am_iload_n F 1 dX4_spend_1 rfl rfl ?_
  refine am_iconst F (v := (1 : Int32)) dX4_spend_2 (by decide) ?_
  obtain ⟨_, M2, h1, h⟩ := am_bE h
  refine am_callVv F [.int a1, .int (1 : Int32)] y0 (by decide) rfl cw_X4_56 (c_X4_raiseStatistic l D E z t0 y0 a1 (1 : Int32) M M2 h1) yn_X4_raiseStatistic rfl ⟨Nat.le_of_ble_eq_true rfl, Nat.le_of_ble_eq_true rfl⟩ rfl rfl (Nat.le_of_ble_eq_true rfl) ⟨Nat.zero_le _, Nat.zero_le _⟩ dX4_spend_3 rfl ?_
  refine am_aload_n F 0 dX4_spend_6 rfl rfl ?_
  refine am_dup F dX4_spend_7 rfl ?_
  refine gf_X4_30 F y0 dX4_spend_8 ?_
  refine am_iload_n F 2 dX4_spend_11 rfl rfl ?_
  refine am_isub F dX4_spend_12 ?_
  refine pf_X4_30 F y0 dX4_spend_13 ?_
  exact am_vret F hr h dX4_spend_16
/-! AisleScheduler$Robot.gain()V -/
abbrev rm_X4_gain : Room := { frames := 3, cells := 0, slots := 0, locals := 68 }
theorem yn_X4_gain : am_yn yX4_gain 0 := ⟨⟨by decide +kernel, by decide +kernel⟩, by decide +kernel⟩
def g_X4_gain (t0 : Nat) (M : am_M) : Option (Unit × am_M) := (am_b (g_X4_raiseStatistic t0 (4 : Int32) (if ((100 : Int32) - (am_g M t0 2)) < (5 : Int32) then ((100 : Int32) - (am_g M t0 2)) else (5 : Int32)) (am_s M t0 2 ((am_g M t0 2) + (if ((100 : Int32) - (am_g M t0 2)) < (5 : Int32) then ((100 : Int32) - (am_g M t0 2)) else (5 : Int32))))) (fun _ M2 => (some ((), M2))))
set_option maxHeartbeats 4000000 in
set_option maxRecDepth 100000 in
theorem c_X4_gain (l : Launch) (D : va_G) (E : Nat → ClassId) (z : Nat) (t0 : Nat) (y0 : am_ly t0 = (4, 0)) (M : am_M)  (M1 : am_M) (h : g_X4_gain t0 M = some ((), M1)) : am_Mv l yX4_gain cX4_gain 2 none rm_X4_gain D E z [.ref (z + t0)] M M1 := by
  unfold g_X4_gain at h
  refine am_of (own := RX4) (by decide +kernel) rfl (by exact Nat.le_of_ble_eq_true rfl) ?_
  intro p e s m args below meth c F hr
  show am_W p l e rm_X4_gain s m args below meth c _ 2 D E z 0 0 M 0 [(0, .ref (z + t0))] []
  refine am_iconst F (v := (5 : Int32)) dX4_gain_0 (by decide) ?_
  refine am_bipush F (v := (100 : Int32)) dX4_gain_1 (by decide) ?_
  refine am_aload_n F 0 dX4_gain_3 rfl rfl ?_
  refine gf_X4_30 F y0 dX4_gain_4 ?_
  refine am_isub F dX4_gain_7 ?_
  refine am_min F dX4_gain_8 wd_1113 (Nat.le_of_ble_eq_true rfl) (Nat.le_of_ble_eq_true rfl) (Nat.le_of_ble_eq_true rfl) (Nat.le_of_ble_eq_true rfl) ?_
  refine am_istore_n F [(1, .int (if ((100 : Int32) - (am_g M t0 2)) < (5 : Int32) then ((100 : Int32) - (am_g M t0 2)) else (5 : Int32))), (0, .ref (z + t0))] dX4_gain_11 rfl (by decide) rfl ?_
  refine am_aload_n F 1 dX4_gain_12 rfl rfl ?_
  refine am_dup F dX4_gain_13 rfl ?_
  refine gf_X4_30 F y0 dX4_gain_14 ?_
  refine am_iload_n F 0 dX4_gain_17 rfl rfl ?_
  refine am_iadd F dX4_gain_18 ?_
  refine pf_X4_30 F y0 dX4_gain_19 ?_
  refine am_aload_n F 1 dX4_gain_22 rfl rfl ?_
  refine am_iconst F (v := (4 : Int32)) dX4_gain_23 (by decide) ?_
  refine am_iload_n F 0 dX4_gain_24 rfl rfl ?_
  obtain ⟨_, M2, h1, h⟩ := am_bE h
  refine am_callVv F [.int (4 : Int32), .int (if ((100 : Int32) - (am_g M t0 2)) < (5 : Int32) then ((100 : Int32) - (am_g M t0 2)) else (5 : Int32))] y0 (by decide) rfl cw_X4_56 (c_X4_raiseStatistic l D E z t0 y0 (4 : Int32) (if ((100 : Int32) - (am_g M t0 2)) < (5 : Int32) then ((100 : Int32) - (am_g M t0 2)) else (5 : Int32)) (am_s M t0 2 ((am_g M t0 2) + (if ((100 : Int32) - (am_g M t0 2)) < (5 : Int32) then ((100 : Int32) - (am_g M t0 2)) else (5 : Int32)))) M2 h1) yn_X4_raiseStatistic rfl ⟨Nat.le_of_ble_eq_true rfl, Nat.le_of_ble_eq_true rfl⟩ rfl rfl (Nat.le_of_ble_eq_true rfl) ⟨Nat.zero_le _, Nat.zero_le _⟩ dX4_gain_25 rfl ?_
  exact am_vret F hr h dX4_gain_28
/-! AisleScheduler$Script.add(C)V -/
abbrev rm_X5_add : Room := { frames := 2, cells := 0, slots := 0, locals := 46 }
theorem yn_X5_add : am_yn yX5_add 1 := ⟨⟨by decide +kernel, by decide +kernel⟩, by decide +kernel⟩
def g_X5_add (a1 : Int32) (M : am_M) : Option (Unit × am_M) := (am_b (g_X9_put 173 40 (am_g M 169 0) a1 M) (fun _ M2 => (some ((), (am_s M2 169 0 ((am_g M2 169 0) + (1 : Int32)))))))
set_option maxHeartbeats 4000000 in
set_option maxRecDepth 100000 in
theorem c_X5_add (l : Launch) (D : va_G) (E : Nat → ClassId) (z : Nat) (a1 : Int32) (M : am_M)  (M1 : am_M) (h : g_X5_add a1 M = some ((), M1)) : am_Mv l yX5_add cX5_add 2 none rm_X5_add D E z [.ref (z + 169), .int a1] M M1 := by
  unfold g_X5_add at h
  refine am_of (own := RX5) (by decide +kernel) rfl (by exact Nat.le_of_ble_eq_true rfl) ?_
  intro p e s m args below meth c F hr
  show am_W p l e rm_X5_add s m args below meth c _ 2 D E z 0 0 M 0 [(0, .ref (z + 169)), (1, .int a1)] []
  refine am_aload_n F 0 dX5_add_0 rfl rfl ?_
  refine gf_X5_21 F lyk_169 dX5_add_1 ?_
  refine am_aload_n F 0 dX5_add_4 rfl rfl ?_
  refine gf_X5_24 F lyk_169 dX5_add_5 ?_
  refine am_iload_n F 1 dX5_add_8 rfl rfl ?_
  obtain ⟨_, M2, h1, h⟩ := am_bE h
  refine am_callSNv F [.ref (z + 173), .int (am_g M 169 0), .int a1] cw_X5_28  (c_X9_put l D E z 173 40 lyk_173 (am_g M 169 0) a1 M M2 h1) yn_X9_put rfl ⟨Nat.le_of_ble_eq_true rfl, Nat.le_of_ble_eq_true rfl⟩ rfl rfl (Nat.le_of_ble_eq_true rfl) ⟨Nat.zero_le _, Nat.zero_le _⟩ dX5_add_9 rfl ?_
  refine am_aload_n F 0 dX5_add_12 rfl rfl ?_
  refine am_dup F dX5_add_13 rfl ?_
  refine gf_X5_24 F lyk_169 dX5_add_14 ?_
  refine am_iconst F (v := (1 : Int32)) dX5_add_17 (by decide) ?_
  refine am_iadd F dX5_add_18 ?_
  refine pf_X5_24 F lyk_169 dX5_add_19 ?_
  exact am_vret F hr h dX5_add_22
/-! AisleScheduler$Script.peek()I -/
abbrev rm_X5_peek : Room := { frames := 2, cells := 0, slots := 0, locals := 45 }
theorem yn_X5_peek : am_yn yX5_peek 0 := ⟨⟨by decide +kernel, by decide +kernel⟩, by decide +kernel⟩
def g_X5_peek  (M : am_M) : Option (Int32 × am_M) := (if (am_g M 169 0) ≤ (am_g M 169 6) then (some ((-1 : Int32), M)) else (am_b (g_X9_at 173 40 (am_g M 169 6) M) (fun v3 M2 => (some (v3, M2)))))
set_option maxHeartbeats 4000000 in
set_option maxRecDepth 100000 in
theorem c_X5_peek (l : Launch) (D : va_G) (E : Nat → ClassId) (z : Nat)  (M : am_M) (r0 : Int32) (M1 : am_M) (h : g_X5_peek  M = some (r0, M1)) : am_Mi l yX5_peek cX5_peek 1 (some .int) rm_X5_peek D E z [.ref (z + 169)] M r0 M1 := by
  unfold g_X5_peek at h
  refine am_of (own := RX5) (by decide +kernel) rfl (by exact Nat.le_of_ble_eq_true rfl) ?_
  intro p e s m args below meth c F hr
  show am_W p l e rm_X5_peek s m args below meth c _ 1 D E z 0 0 M 0 [(0, .ref (z + 169))] []
  refine am_aload_n F 0 dX5_peek_0 rfl rfl ?_
  refine gf_X5_35 F lyk_169 dX5_peek_1 ?_
  refine am_aload_n F 0 dX5_peek_4 rfl rfl ?_
  refine gf_X5_24 F lyk_169 dX5_peek_5 ?_
  refine am_icmp_ge F (tgt := 25) dX5_peek_8 (by decide) (fun c4 => ?_) (fun c4 => ?_)
  · have h := (if_pos c4).symm.trans h
    refine am_iconst F (v := (-1 : Int32)) dX5_peek_25 (by decide) ?_
    exact am_iret F hr h dX5_peek_26
  · have h := (if_neg c4).symm.trans h
    refine am_aload_n F 0 dX5_peek_11 rfl rfl ?_
    refine gf_X5_21 F lyk_169 dX5_peek_12 ?_
    refine am_aload_n F 0 dX5_peek_15 rfl rfl ?_
    refine gf_X5_35 F lyk_169 dX5_peek_16 ?_
    obtain ⟨v3, M2, h1, h⟩ := am_bE h
    refine am_callSNi F [.ref (z + 173), .int (am_g M 169 6)] cw_X5_63  (c_X9_at l D E z 173 40 lyk_173 (am_g M 169 6) M v3 M2 h1) yn_X9_at rfl ⟨Nat.le_of_ble_eq_true rfl, Nat.le_of_ble_eq_true rfl⟩ rfl rfl (Nat.le_of_ble_eq_true rfl) ⟨Nat.zero_le _, Nat.zero_le _⟩ dX5_peek_19 rfl ?_
    refine am_goto F (tgt := 26) dX5_peek_22 (by decide) ?_
    exact am_iret F hr h dX5_peek_26
/-! AisleScheduler$Script.isDigit(I)Z -/
abbrev rm_X5_isDigit : Room := { frames := 1, cells := 0, slots := 0, locals := 24 }
theorem yn_X5_isDigit : am_yn yX5_isDigit 1 := ⟨⟨by decide +kernel, by decide +kernel⟩, by decide +kernel⟩
def g_X5_isDigit (a0 : Int32) (M : am_M) : Option (Int32 × am_M) := (if a0 < (48 : Int32) then (some ((0 : Int32), M)) else (if (57 : Int32) < a0 then (some ((0 : Int32), M)) else (some ((1 : Int32), M))))
set_option maxHeartbeats 4000000 in
set_option maxRecDepth 100000 in
theorem c_X5_isDigit (l : Launch) (D : va_G) (E : Nat → ClassId) (z : Nat) (a0 : Int32) (M : am_M) (r0 : Int32) (M1 : am_M) (h : g_X5_isDigit a0 M = some (r0, M1)) : am_Mi l yX5_isDigit cX5_isDigit 1 (some .boolean) rm_X5_isDigit D E z [.int a0] M r0 M1 := by
  unfold g_X5_isDigit at h
  refine am_of (own := RX5) (by decide +kernel) rfl (by exact Nat.le_of_ble_eq_true rfl) ?_
  intro p e s m args below meth c F hr
  show am_W p l e rm_X5_isDigit s m args below meth c _ 1 D E z 0 0 M 0 [(0, .int a0)] []
  refine am_iload_n F 0 dX5_isDigit_0 rfl rfl ?_
  refine am_bipush F (v := (48 : Int32)) dX5_isDigit_1 (by decide) ?_
  refine am_icmp_lt F (tgt := 16) dX5_isDigit_3 (by decide) (fun c2 => ?_) (fun c2 => ?_)
  · have h := (if_pos c2).symm.trans h
    refine am_iconst F (v := (0 : Int32)) dX5_isDigit_16 (by decide) ?_
    exact am_zret F hr (by decide) h dX5_isDigit_17
  · have h := (if_neg c2).symm.trans h
    refine am_iload_n F 0 dX5_isDigit_6 rfl rfl ?_
    refine am_bipush F (v := (57 : Int32)) dX5_isDigit_7 (by decide) ?_
    refine am_icmp_gt F (tgt := 16) dX5_isDigit_9 (by decide) (fun c1 => ?_) (fun c1 => ?_)
    · have h := (if_pos c1).symm.trans h
      refine am_iconst F (v := (0 : Int32)) dX5_isDigit_16 (by decide) ?_
      exact am_zret F hr (by decide) h dX5_isDigit_17
    · have h := (if_neg c1).symm.trans h
      refine am_iconst F (v := (1 : Int32)) dX5_isDigit_12 (by decide) ?_
      refine am_goto F (tgt := 17) dX5_isDigit_13 (by decide) ?_
      exact am_zret F hr (by decide) h dX5_isDigit_17
/-! AisleScheduler.isCell(I)Z -/
abbrev rm_X9_isCell : Room := { frames := 1, cells := 0, slots := 0, locals := 24 }
theorem yn_X9_isCell : am_yn yX9_isCell 1 := ⟨⟨by decide +kernel, by decide +kernel⟩, by decide +kernel⟩
def g_X9_isCell (a0 : Int32) (M : am_M) : Option (Int32 × am_M) := (if a0 < (0 : Int32) then (some ((0 : Int32), M)) else (if (40 : Int32) ≤ a0 then (some ((0 : Int32), M)) else (some ((1 : Int32), M))))
set_option maxHeartbeats 4000000 in
set_option maxRecDepth 100000 in
theorem c_X9_isCell (l : Launch) (D : va_G) (E : Nat → ClassId) (z : Nat) (a0 : Int32) (M : am_M) (r0 : Int32) (M1 : am_M) (h : g_X9_isCell a0 M = some (r0, M1)) : am_Mi l yX9_isCell cX9_isCell 1 (some .boolean) rm_X9_isCell D E z [.int a0] M r0 M1 := by
  unfold g_X9_isCell at h
  refine am_of (own := RX9) (by decide +kernel) rfl (by exact Nat.le_of_ble_eq_true rfl) ?_
  intro p e s m args below meth c F hr
  show am_W p l e rm_X9_isCell s m args below meth c _ 1 D E z 0 0 M 0 [(0, .int a0)] []
  refine am_iload_n F 0 dX9_isCell_0 rfl rfl ?_
  refine am_if_lt F (tgt := 14) dX9_isCell_1 (by decide) (fun c2 => ?_) (fun c2 => ?_)
  · have h := (if_pos c2).symm.trans h
    refine am_iconst F (v := (0 : Int32)) dX9_isCell_14 (by decide) ?_
    exact am_zret F hr (by decide) h dX9_isCell_15
  · have h := (if_neg c2).symm.trans h
    refine am_iload_n F 0 dX9_isCell_4 rfl rfl ?_
    refine am_bipush F (v := (40 : Int32)) dX9_isCell_5 (by decide) ?_
    refine am_icmp_ge F (tgt := 14) dX9_isCell_7 (by decide) (fun c1 => ?_) (fun c1 => ?_)
    · have h := (if_pos c1).symm.trans h
      refine am_iconst F (v := (0 : Int32)) dX9_isCell_14 (by decide) ?_
      exact am_zret F hr (by decide) h dX9_isCell_15
    · have h := (if_neg c1).symm.trans h
      refine am_iconst F (v := (1 : Int32)) dX9_isCell_10 (by decide) ?_
      refine am_goto F (tgt := 15) dX9_isCell_11 (by decide) ?_
      exact am_zret F hr (by decide) h dX9_isCell_15
/-! AisleScheduler$Script.parseNumber()Z -/
abbrev rm_X5_parseNumber : Room := { frames := 3, cells := 0, slots := 0, locals := 65 }
theorem yn_X5_parseNumber : am_yn yX5_parseNumber 0 := ⟨⟨by decide +kernel, by decide +kernel⟩, by decide +kernel⟩
def g_X5_parseNumber  (M : am_M) : Option (Int32 × am_M) := (am_b (g_X5_peek  M) (fun v3 M2 => (am_b (g_X5_isDigit v3 M2) (fun v6 M5 => (if v6 = (0 : Int32) then (some ((0 : Int32), M5)) else (am_b (g_X5_peek  M5) (fun v9 M8 => (am_b (g_X5_peek  (am_s (am_s M8 169 7 (v9 - (48 : Int32))) 169 6 ((am_g (am_s M8 169 7 (v9 - (48 : Int32))) 169 6) + (1 : Int32)))) (fun v12 M11 => (am_b (g_X5_isDigit v12 M11) (fun v15 M14 => (if v15 = (0 : Int32) then (some ((1 : Int32), M14)) else (am_b (g_X5_peek  M14) (fun v18 M17 => (am_b (g_X9_isCell (am_g (am_s M17 169 7 (((am_g M14 169 7) * (10 : Int32)) + (v18 - (48 : Int32)))) 169 7) (am_s M17 169 7 (((am_g M14 169 7) * (10 : Int32)) + (v18 - (48 : Int32))))) (fun v21 M20 => (if v21 = (0 : Int32) then (some ((0 : Int32), M20)) else (some ((1 : Int32), (am_s M20 169 6 ((am_g M20 169 6) + (1 : Int32))))))))))))))))))))))
set_option maxHeartbeats 4000000 in
set_option maxRecDepth 100000 in
theorem c_X5_parseNumber (l : Launch) (D : va_G) (E : Nat → ClassId) (z : Nat)  (M : am_M) (r0 : Int32) (M1 : am_M) (h : g_X5_parseNumber  M = some (r0, M1)) : am_Mi l yX5_parseNumber cX5_parseNumber 1 (some .boolean) rm_X5_parseNumber D E z [.ref (z + 169)] M r0 M1 := by
  unfold g_X5_parseNumber at h
  refine am_of (own := RX5) (by decide +kernel) rfl (by exact Nat.le_of_ble_eq_true rfl) ?_
  intro p e s m args below meth c F hr
  show am_W p l e rm_X5_parseNumber s m args below meth c _ 1 D E z 0 0 M 0 [(0, .ref (z + 169))] []
  refine am_aload_n F 0 dX5_parseNumber_0 rfl rfl ?_
  obtain ⟨v3, M2, h1, h⟩ := am_bE h
  refine am_callVi F [] lyk_169 (by decide) rfl cw_X5_42 (c_X5_peek l D E z  M v3 M2 h1) yn_X5_peek rfl ⟨Nat.le_of_ble_eq_true rfl, Nat.le_of_ble_eq_true rfl⟩ rfl rfl (Nat.le_of_ble_eq_true rfl) ⟨Nat.zero_le _, Nat.zero_le _⟩ dX5_parseNumber_1 rfl ?_
  obtain ⟨v6, M5, h4, h⟩ := am_bE h
  refine am_callSi F [.int v3] cw_X5_56 rfl (c_X5_isDigit l D E z v3 M2 v6 M5 h4) yn_X5_isDigit rfl ⟨Nat.le_of_ble_eq_true rfl, Nat.le_of_ble_eq_true rfl⟩ rfl rfl (Nat.le_of_ble_eq_true rfl) ⟨Nat.zero_le _, Nat.zero_le _⟩ dX5_parseNumber_4 rfl ?_
  refine am_if_ne F (tgt := 12) dX5_parseNumber_7 (by decide) (fun c24 => ?_) (fun c24 => ?_)
  · have h := (if_neg c24).symm.trans h
    refine am_aload_n F 0 dX5_parseNumber_12 rfl rfl ?_
    refine am_aload_n F 0 dX5_parseNumber_13 rfl rfl ?_
    obtain ⟨v9, M8, h7, h⟩ := am_bE h
    refine am_callVi F [] lyk_169 (by decide) rfl cw_X5_42 (c_X5_peek l D E z  M5 v9 M8 h7) yn_X5_peek rfl ⟨Nat.le_of_ble_eq_true rfl, Nat.le_of_ble_eq_true rfl⟩ rfl rfl (Nat.le_of_ble_eq_true rfl) ⟨Nat.zero_le _, Nat.zero_le _⟩ dX5_parseNumber_14 rfl ?_
    refine am_bipush F (v := (48 : Int32)) dX5_parseNumber_17 (by decide) ?_
    refine am_isub F dX5_parseNumber_19 ?_
    refine pf_X5_49 F lyk_169 dX5_parseNumber_20 ?_
    refine am_aload_n F 0 dX5_parseNumber_23 rfl rfl ?_
    refine am_dup F dX5_parseNumber_24 rfl ?_
    refine gf_X5_35 F lyk_169 dX5_parseNumber_25 ?_
    refine am_iconst F (v := (1 : Int32)) dX5_parseNumber_28 (by decide) ?_
    refine am_iadd F dX5_parseNumber_29 ?_
    refine pf_X5_35 F lyk_169 dX5_parseNumber_30 ?_
    refine am_aload_n F 0 dX5_parseNumber_33 rfl rfl ?_
    obtain ⟨v12, M11, h10, h⟩ := am_bE h
    refine am_callVi F [] lyk_169 (by decide) rfl cw_X5_42 (c_X5_peek l D E z  (am_s (am_s M8 169 7 (v9 - (48 : Int32))) 169 6 ((am_g (am_s M8 169 7 (v9 - (48 : Int32))) 169 6) + (1 : Int32))) v12 M11 h10) yn_X5_peek rfl ⟨Nat.le_of_ble_eq_true rfl, Nat.le_of_ble_eq_true rfl⟩ rfl rfl (Nat.le_of_ble_eq_true rfl) ⟨Nat.zero_le _, Nat.zero_le _⟩ dX5_parseNumber_34 rfl ?_
    obtain ⟨v15, M14, h13, h⟩ := am_bE h
    refine am_callSi F [.int v12] cw_X5_56 rfl (c_X5_isDigit l D E z v12 M11 v15 M14 h13) yn_X5_isDigit rfl ⟨Nat.le_of_ble_eq_true rfl, Nat.le_of_ble_eq_true rfl⟩ rfl rfl (Nat.le_of_ble_eq_true rfl) ⟨Nat.zero_le _, Nat.zero_le _⟩ dX5_parseNumber_37 rfl ?_
    refine am_if_ne F (tgt := 45) dX5_parseNumber_40 (by decide) (fun c23 => ?_) (fun c23 => ?_)
    · have h := (if_neg c23).symm.trans h
      refine am_aload_n F 0 dX5_parseNumber_45 rfl rfl ?_
      refine am_aload_n F 0 dX5_parseNumber_46 rfl rfl ?_
      refine gf_X5_49 F lyk_169 dX5_parseNumber_47 ?_
      refine am_bipush F (v := (10 : Int32)) dX5_parseNumber_50 (by decide) ?_
      refine am_imul F dX5_parseNumber_52 ?_
      refine am_aload_n F 0 dX5_parseNumber_53 rfl rfl ?_
      obtain ⟨v18, M17, h16, h⟩ := am_bE h
      refine am_callVi F [] lyk_169 (by decide) rfl cw_X5_42 (c_X5_peek l D E z  M14 v18 M17 h16) yn_X5_peek rfl ⟨Nat.le_of_ble_eq_true rfl, Nat.le_of_ble_eq_true rfl⟩ rfl rfl (Nat.le_of_ble_eq_true rfl) ⟨Nat.zero_le _, Nat.zero_le _⟩ dX5_parseNumber_54 rfl ?_
      refine am_bipush F (v := (48 : Int32)) dX5_parseNumber_57 (by decide) ?_
      refine am_isub F dX5_parseNumber_59 ?_
      refine am_iadd F dX5_parseNumber_60 ?_
      refine pf_X5_49 F lyk_169 dX5_parseNumber_61 ?_
      refine am_aload_n F 0 dX5_parseNumber_64 rfl rfl ?_
      refine gf_X5_49 F lyk_169 dX5_parseNumber_65 ?_
      obtain ⟨v21, M20, h19, h⟩ := am_bE h
      refine am_callSNi F [.int (am_g (am_s M17 169 7 (((am_g M14 169 7) * (10 : Int32)) + (v18 - (48 : Int32)))) 169 7)] cw_X5_60  (c_X9_isCell l D E z (am_g (am_s M17 169 7 (((am_g M14 169 7) * (10 : Int32)) + (v18 - (48 : Int32)))) 169 7) (am_s M17 169 7 (((am_g M14 169 7) * (10 : Int32)) + (v18 - (48 : Int32)))) v21 M20 h19) yn_X9_isCell rfl ⟨Nat.le_of_ble_eq_true rfl, Nat.le_of_ble_eq_true rfl⟩ rfl rfl (Nat.le_of_ble_eq_true rfl) ⟨Nat.zero_le _, Nat.zero_le _⟩ dX5_parseNumber_68 rfl ?_
      refine am_if_ne F (tgt := 76) dX5_parseNumber_71 (by decide) (fun c22 => ?_) (fun c22 => ?_)
      · have h := (if_neg c22).symm.trans h
        refine am_aload_n F 0 dX5_parseNumber_76 rfl rfl ?_
        refine am_dup F dX5_parseNumber_77 rfl ?_
        refine gf_X5_35 F lyk_169 dX5_parseNumber_78 ?_
        refine am_iconst F (v := (1 : Int32)) dX5_parseNumber_81 (by decide) ?_
        refine am_iadd F dX5_parseNumber_82 ?_
        refine pf_X5_35 F lyk_169 dX5_parseNumber_83 ?_
        refine am_iconst F (v := (1 : Int32)) dX5_parseNumber_86 (by decide) ?_
        exact am_zret F hr (by decide) h dX5_parseNumber_87
      · have h := (if_pos c22).symm.trans h
        refine am_iconst F (v := (0 : Int32)) dX5_parseNumber_74 (by decide) ?_
        exact am_zret F hr (by decide) h dX5_parseNumber_75
    · have h := (if_pos c23).symm.trans h
      refine am_iconst F (v := (1 : Int32)) dX5_parseNumber_43 (by decide) ?_
      exact am_zret F hr (by decide) h dX5_parseNumber_44
  · have h := (if_pos c24).symm.trans h
    refine am_iconst F (v := (0 : Int32)) dX5_parseNumber_10 (by decide) ?_
    exact am_zret F hr (by decide) h dX5_parseNumber_11
/-! AisleScheduler$Script.parseSign(C)Z -/
abbrev rm_X5_parseSign : Room := { frames := 3, cells := 0, slots := 0, locals := 65 }
theorem yn_X5_parseSign : am_yn yX5_parseSign 1 := ⟨⟨by decide +kernel, by decide +kernel⟩, by decide +kernel⟩
def g_X5_parseSign (a1 : Int32) (M : am_M) : Option (Int32 × am_M) := (am_b (g_X5_peek  M) (fun v3 M2 => (if v3 = a1 then (some ((1 : Int32), (am_s M2 169 6 ((am_g M2 169 6) + (1 : Int32))))) else (some ((0 : Int32), M2)))))
set_option maxHeartbeats 4000000 in
set_option maxRecDepth 100000 in
theorem c_X5_parseSign (l : Launch) (D : va_G) (E : Nat → ClassId) (z : Nat) (a1 : Int32) (M : am_M) (r0 : Int32) (M1 : am_M) (h : g_X5_parseSign a1 M = some (r0, M1)) : am_Mi l yX5_parseSign cX5_parseSign 2 (some .boolean) rm_X5_parseSign D E z [.ref (z + 169), .int a1] M r0 M1 := by
  unfold g_X5_parseSign at h
  refine am_of (own := RX5) (by decide +kernel) rfl (by exact Nat.le_of_ble_eq_true rfl) ?_
  intro p e s m args below meth c F hr
  show am_W p l e rm_X5_parseSign s m args below meth c _ 2 D E z 0 0 M 0 [(0, .ref (z + 169)), (1, .int a1)] []
  refine am_aload_n F 0 dX5_parseSign_0 rfl rfl ?_
  obtain ⟨v3, M2, h1, h⟩ := am_bE h
  refine am_callVi F [] lyk_169 (by decide) rfl cw_X5_42 (c_X5_peek l D E z  M v3 M2 h1) yn_X5_peek rfl ⟨Nat.le_of_ble_eq_true rfl, Nat.le_of_ble_eq_true rfl⟩ rfl rfl (Nat.le_of_ble_eq_true rfl) ⟨Nat.zero_le _, Nat.zero_le _⟩ dX5_parseSign_1 rfl ?_
  refine am_iload_n F 1 dX5_parseSign_4 rfl rfl ?_
  refine am_icmp_eq F (tgt := 10) dX5_parseSign_5 (by decide) (fun c4 => ?_) (fun c4 => ?_)
  · have h := (if_pos c4).symm.trans h
    refine am_aload_n F 0 dX5_parseSign_10 rfl rfl ?_
    refine am_dup F dX5_parseSign_11 rfl ?_
    refine gf_X5_35 F lyk_169 dX5_parseSign_12 ?_
    refine am_iconst F (v := (1 : Int32)) dX5_parseSign_15 (by decide) ?_
    refine am_iadd F dX5_parseSign_16 ?_
    refine pf_X5_35 F lyk_169 dX5_parseSign_17 ?_
    refine am_iconst F (v := (1 : Int32)) dX5_parseSign_20 (by decide) ?_
    exact am_zret F hr (by decide) h dX5_parseSign_21
  · have h := (if_neg c4).symm.trans h
    refine am_iconst F (v := (0 : Int32)) dX5_parseSign_8 (by decide) ?_
    exact am_zret F hr (by decide) h dX5_parseSign_9
/-! AisleScheduler$Script.parseEntry()Z -/
abbrev rm_X5_parseEntry : Room := { frames := 4, cells := 0, slots := 0, locals := 86 }
theorem yn_X5_parseEntry : am_yn yX5_parseEntry 0 := ⟨⟨by decide +kernel, by decide +kernel⟩, by decide +kernel⟩
def g_X5_parseEntry_J47 (a1 : Int32) (a2 : Int32) (M : am_M) : Option (Int32 × am_M) := (am_b (g_X9_put 170 14 (am_g M 169 1) a1 M) (fun _ M5 => (am_b (g_X5_parseNumber  (am_s M5 169 6 ((am_g M5 169 6) + (1 : Int32)))) (fun v8 M7 => (if v8 = (0 : Int32) then (some ((0 : Int32), M7)) else (am_b (g_X9_put 171 14 (am_g M7 169 1) (am_g M7 169 7) M7) (fun _ M10 => (if a2 = (0 : Int32) then (am_b (g_X9_put 172 14 (am_g M10 169 1) (am_g M10 169 7) M10) (fun _ M12 => (am_b (g_X5_parseSign (59 : Int32) M12) (fun v15 M14 => (am_c (v15 = 0 ∨ v15 = 1) (some (v15, M14))))))) else (am_b (g_X5_parseSign (45 : Int32) M10) (fun v19 M18 => (if v19 = (0 : Int32) then (some ((0 : Int32), M18)) else (am_b (g_X5_parseNumber  M18) (fun v22 M21 => (if v22 = (0 : Int32) then (some ((0 : Int32), M21)) else (am_b (g_X9_put 172 14 (am_g M21 169 1) (am_g M21 169 7) M21) (fun _ M24 => (am_b (g_X5_parseSign (59 : Int32) M24) (fun v27 M26 => (am_c (v27 = 0 ∨ v27 = 1) (some (v27, M26)))))))))))))))))))))
set_option maxHeartbeats 4000000 in
set_option maxRecDepth 100000 in
theorem cj_X5_parseEntry_J47 {l : Launch} {p : Program} {e : Env} {s : State} {m : MethodId} {args : Array Value} {below : List Frame} {meth : Method} {c : Code} {D : va_G} {E : Nat → ClassId} {z : Nat} (F : am_F p s m args meth c cX5_parseEntry 3 RX5 D E z) (hr : meth.sig.returnType = (some .boolean)) (a1 : Int32) (a2 : Int32) (M : am_M) (r0 : Int32) (M1 : am_M) (h : g_X5_parseEntry_J47 a1 a2 M = some (r0, M1)) : am_W p l e rm_X5_parseEntry s m args below meth c (MQ below (va_Qi (fun (r9 : Int32) (u : am_M) => r9 = r0 ∧ u = M1) (am_BQ z E D) (fun q => z ≤ q)) args s 0 0 (fun q => z ≤ q)) 3 D E z 0 0 M 47 [(0, .ref (z + 169)), (1, .int a1), (2, .int a2)] [] := by
  unfold g_X5_parseEntry_J47 at h
  refine am_aload_n F 0 dX5_parseEntry_47 rfl rfl ?_
  refine gf_X5_9 F lyk_169 dX5_parseEntry_48 ?_
  refine am_aload_n F 0 dX5_parseEntry_51 rfl rfl ?_
  refine gf_X5_32 F lyk_169 dX5_parseEntry_52 ?_
  refine am_iload_n F 1 dX5_parseEntry_55 rfl rfl ?_
  obtain ⟨_, M5, h4, h⟩ := am_bE h
  refine am_callSNv F [.ref (z + 170), .int (am_g M 169 1), .int a1] cw_X5_28  (c_X9_put l D E z 170 14 lyk_170 (am_g M 169 1) a1 M M5 h4) yn_X9_put rfl ⟨Nat.le_of_ble_eq_true rfl, Nat.le_of_ble_eq_true rfl⟩ rfl rfl (Nat.le_of_ble_eq_true rfl) ⟨Nat.zero_le _, Nat.zero_le _⟩ dX5_parseEntry_56 rfl ?_
  refine am_aload_n F 0 dX5_parseEntry_59 rfl rfl ?_
  refine am_dup F dX5_parseEntry_60 rfl ?_
  refine gf_X5_35 F lyk_169 dX5_parseEntry_61 ?_
  refine am_iconst F (v := (1 : Int32)) dX5_parseEntry_64 (by decide) ?_
  refine am_iadd F dX5_parseEntry_65 ?_
  refine pf_X5_35 F lyk_169 dX5_parseEntry_66 ?_
  refine am_aload_n F 0 dX5_parseEntry_69 rfl rfl ?_
  obtain ⟨v8, M7, h6, h⟩ := am_bE h
  refine am_callVi F [] lyk_169 (by decide) rfl cw_X5_46 (c_X5_parseNumber l D E z  (am_s M5 169 6 ((am_g M5 169 6) + (1 : Int32))) v8 M7 h6) yn_X5_parseNumber rfl ⟨Nat.le_of_ble_eq_true rfl, Nat.le_of_ble_eq_true rfl⟩ rfl rfl (Nat.le_of_ble_eq_true rfl) ⟨Nat.zero_le _, Nat.zero_le _⟩ dX5_parseEntry_70 rfl ?_
  refine am_if_ne F (tgt := 78) dX5_parseEntry_73 (by decide) (fun c32 => ?_) (fun c32 => ?_)
  · have h := (if_neg c32).symm.trans h
    refine am_aload_n F 0 dX5_parseEntry_78 rfl rfl ?_
    refine gf_X5_15 F lyk_169 dX5_parseEntry_79 ?_
    refine am_aload_n F 0 dX5_parseEntry_82 rfl rfl ?_
    refine gf_X5_32 F lyk_169 dX5_parseEntry_83 ?_
    refine am_aload_n F 0 dX5_parseEntry_86 rfl rfl ?_
    refine gf_X5_49 F lyk_169 dX5_parseEntry_87 ?_
    obtain ⟨_, M10, h9, h⟩ := am_bE h
    refine am_callSNv F [.ref (z + 171), .int (am_g M7 169 1), .int (am_g M7 169 7)] cw_X5_28  (c_X9_put l D E z 171 14 lyk_171 (am_g M7 169 1) (am_g M7 169 7) M7 M10 h9) yn_X9_put rfl ⟨Nat.le_of_ble_eq_true rfl, Nat.le_of_ble_eq_true rfl⟩ rfl rfl (Nat.le_of_ble_eq_true rfl) ⟨Nat.zero_le _, Nat.zero_le _⟩ dX5_parseEntry_90 rfl ?_
    refine am_iload_n F 2 dX5_parseEntry_93 rfl rfl ?_
    refine am_if_eq F (tgt := 115) dX5_parseEntry_94 (by decide) (fun c31 => ?_) (fun c31 => ?_)
    · have h := (if_pos c31).symm.trans h
      refine am_aload_n F 0 dX5_parseEntry_115 rfl rfl ?_
      refine gf_X5_18 F lyk_169 dX5_parseEntry_116 ?_
      refine am_aload_n F 0 dX5_parseEntry_119 rfl rfl ?_
      refine gf_X5_32 F lyk_169 dX5_parseEntry_120 ?_
      refine am_aload_n F 0 dX5_parseEntry_123 rfl rfl ?_
      refine gf_X5_49 F lyk_169 dX5_parseEntry_124 ?_
      obtain ⟨_, M12, h11, h⟩ := am_bE h
      refine am_callSNv F [.ref (z + 172), .int (am_g M10 169 1), .int (am_g M10 169 7)] cw_X5_28  (c_X9_put l D E z 172 14 lyk_172 (am_g M10 169 1) (am_g M10 169 7) M10 M12 h11) yn_X9_put rfl ⟨Nat.le_of_ble_eq_true rfl, Nat.le_of_ble_eq_true rfl⟩ rfl rfl (Nat.le_of_ble_eq_true rfl) ⟨Nat.zero_le _, Nat.zero_le _⟩ dX5_parseEntry_127 rfl ?_
      refine am_aload_n F 0 dX5_parseEntry_130 rfl rfl ?_
      refine am_bipush F (v := (59 : Int32)) dX5_parseEntry_131 (by decide) ?_
      obtain ⟨v15, M14, h13, h⟩ := am_bE h
      refine am_callVi F [.int (59 : Int32)] lyk_169 (by decide) rfl cw_X5_52 (c_X5_parseSign l D E z (59 : Int32) M12 v15 M14 h13) yn_X5_parseSign rfl ⟨Nat.le_of_ble_eq_true rfl, Nat.le_of_ble_eq_true rfl⟩ rfl rfl (Nat.le_of_ble_eq_true rfl) ⟨Nat.zero_le _, Nat.zero_le _⟩ dX5_parseEntry_133 rfl ?_
      obtain ⟨q16, h⟩ := am_cE h
      exact am_zret F hr q16 h dX5_parseEntry_136
    · have h := (if_neg c31).symm.trans h
      refine am_aload_n F 0 dX5_parseEntry_97 rfl rfl ?_
      refine am_bipush F (v := (45 : Int32)) dX5_parseEntry_98 (by decide) ?_
      obtain ⟨v19, M18, h17, h⟩ := am_bE h
      refine am_callVi F [.int (45 : Int32)] lyk_169 (by decide) rfl cw_X5_52 (c_X5_parseSign l D E z (45 : Int32) M10 v19 M18 h17) yn_X5_parseSign rfl ⟨Nat.le_of_ble_eq_true rfl, Nat.le_of_ble_eq_true rfl⟩ rfl rfl (Nat.le_of_ble_eq_true rfl) ⟨Nat.zero_le _, Nat.zero_le _⟩ dX5_parseEntry_100 rfl ?_
      refine am_if_eq F (tgt := 113) dX5_parseEntry_103 (by decide) (fun c30 => ?_) (fun c30 => ?_)
      · have h := (if_pos c30).symm.trans h
        refine am_iconst F (v := (0 : Int32)) dX5_parseEntry_113 (by decide) ?_
        exact am_zret F hr (by decide) h dX5_parseEntry_114
      · have h := (if_neg c30).symm.trans h
        refine am_aload_n F 0 dX5_parseEntry_106 rfl rfl ?_
        obtain ⟨v22, M21, h20, h⟩ := am_bE h
        refine am_callVi F [] lyk_169 (by decide) rfl cw_X5_46 (c_X5_parseNumber l D E z  M18 v22 M21 h20) yn_X5_parseNumber rfl ⟨Nat.le_of_ble_eq_true rfl, Nat.le_of_ble_eq_true rfl⟩ rfl rfl (Nat.le_of_ble_eq_true rfl) ⟨Nat.zero_le _, Nat.zero_le _⟩ dX5_parseEntry_107 rfl ?_
        refine am_if_ne F (tgt := 115) dX5_parseEntry_110 (by decide) (fun c29 => ?_) (fun c29 => ?_)
        · have h := (if_neg c29).symm.trans h
          refine am_aload_n F 0 dX5_parseEntry_115 rfl rfl ?_
          refine gf_X5_18 F lyk_169 dX5_parseEntry_116 ?_
          refine am_aload_n F 0 dX5_parseEntry_119 rfl rfl ?_
          refine gf_X5_32 F lyk_169 dX5_parseEntry_120 ?_
          refine am_aload_n F 0 dX5_parseEntry_123 rfl rfl ?_
          refine gf_X5_49 F lyk_169 dX5_parseEntry_124 ?_
          obtain ⟨_, M24, h23, h⟩ := am_bE h
          refine am_callSNv F [.ref (z + 172), .int (am_g M21 169 1), .int (am_g M21 169 7)] cw_X5_28  (c_X9_put l D E z 172 14 lyk_172 (am_g M21 169 1) (am_g M21 169 7) M21 M24 h23) yn_X9_put rfl ⟨Nat.le_of_ble_eq_true rfl, Nat.le_of_ble_eq_true rfl⟩ rfl rfl (Nat.le_of_ble_eq_true rfl) ⟨Nat.zero_le _, Nat.zero_le _⟩ dX5_parseEntry_127 rfl ?_
          refine am_aload_n F 0 dX5_parseEntry_130 rfl rfl ?_
          refine am_bipush F (v := (59 : Int32)) dX5_parseEntry_131 (by decide) ?_
          obtain ⟨v27, M26, h25, h⟩ := am_bE h
          refine am_callVi F [.int (59 : Int32)] lyk_169 (by decide) rfl cw_X5_52 (c_X5_parseSign l D E z (59 : Int32) M24 v27 M26 h25) yn_X5_parseSign rfl ⟨Nat.le_of_ble_eq_true rfl, Nat.le_of_ble_eq_true rfl⟩ rfl rfl (Nat.le_of_ble_eq_true rfl) ⟨Nat.zero_le _, Nat.zero_le _⟩ dX5_parseEntry_133 rfl ?_
          obtain ⟨q28, h⟩ := am_cE h
          exact am_zret F hr q28 h dX5_parseEntry_136
        · have h := (if_pos c29).symm.trans h
          refine am_iconst F (v := (0 : Int32)) dX5_parseEntry_113 (by decide) ?_
          exact am_zret F hr (by decide) h dX5_parseEntry_114
  · have h := (if_pos c32).symm.trans h
    refine am_iconst F (v := (0 : Int32)) dX5_parseEntry_76 (by decide) ?_
    exact am_zret F hr (by decide) h dX5_parseEntry_77
def g_X5_parseEntry_J16 (a1 : Int32) (as0 : Int32) (M : am_M) : Option (Int32 × am_M) := (if as0 = (0 : Int32) then (if a1 = (119 : Int32) then (g_X5_parseEntry_J47 a1 as0 M) else (if a1 = (99 : Int32) then (g_X5_parseEntry_J47 a1 as0 M) else (if a1 = (102 : Int32) then (g_X5_parseEntry_J47 a1 as0 M) else (if a1 = (114 : Int32) then (g_X5_parseEntry_J47 a1 as0 M) else (some ((0 : Int32), M)))))) else (g_X5_parseEntry_J47 a1 as0 M))
set_option maxHeartbeats 4000000 in
set_option maxRecDepth 100000 in
theorem cj_X5_parseEntry_J16 {l : Launch} {p : Program} {e : Env} {s : State} {m : MethodId} {args : Array Value} {below : List Frame} {meth : Method} {c : Code} {D : va_G} {E : Nat → ClassId} {z : Nat} (F : am_F p s m args meth c cX5_parseEntry 3 RX5 D E z) (hr : meth.sig.returnType = (some .boolean)) (a1 : Int32) (as0 : Int32) (M : am_M) (r0 : Int32) (M1 : am_M) (h : g_X5_parseEntry_J16 a1 as0 M = some (r0, M1)) : am_W p l e rm_X5_parseEntry s m args below meth c (MQ below (va_Qi (fun (r9 : Int32) (u : am_M) => r9 = r0 ∧ u = M1) (am_BQ z E D) (fun q => z ≤ q)) args s 0 0 (fun q => z ≤ q)) 3 D E z 0 0 M 16 [(0, .ref (z + 169)), (1, .int a1)] [.int as0] := by
  unfold g_X5_parseEntry_J16 at h
  refine am_istore_n F [(2, .int as0), (0, .ref (z + 169)), (1, .int a1)] dX5_parseEntry_16 rfl (by decide) rfl ?_
  refine am_iload_n F 0 dX5_parseEntry_17 rfl rfl ?_
  refine am_if_ne F (tgt := 47) dX5_parseEntry_18 (by decide) (fun c37 => ?_) (fun c37 => ?_)
  · have h := (if_neg c37).symm.trans h
    exact am_sub (lv' := [(0, .ref (z + 169)), (1, .int a1), (2, .int as0)]) [1, 2, 0] rfl (cj_X5_parseEntry_J47 F hr a1 as0 M r0 M1 h)
  · have h := (if_pos c37).symm.trans h
    refine am_iload_n F 2 dX5_parseEntry_21 rfl rfl ?_
    refine am_bipush F (v := (119 : Int32)) dX5_parseEntry_22 (by decide) ?_
    refine am_icmp_eq F (tgt := 47) dX5_parseEntry_24 (by decide) (fun c36 => ?_) (fun c36 => ?_)
    · have h := (if_pos c36).symm.trans h
      exact am_sub (lv' := [(0, .ref (z + 169)), (1, .int a1), (2, .int as0)]) [1, 2, 0] rfl (cj_X5_parseEntry_J47 F hr a1 as0 M r0 M1 h)
    · have h := (if_neg c36).symm.trans h
      refine am_iload_n F 2 dX5_parseEntry_27 rfl rfl ?_
      refine am_bipush F (v := (99 : Int32)) dX5_parseEntry_28 (by decide) ?_
      refine am_icmp_eq F (tgt := 47) dX5_parseEntry_30 (by decide) (fun c35 => ?_) (fun c35 => ?_)
      · have h := (if_pos c35).symm.trans h
        exact am_sub (lv' := [(0, .ref (z + 169)), (1, .int a1), (2, .int as0)]) [1, 2, 0] rfl (cj_X5_parseEntry_J47 F hr a1 as0 M r0 M1 h)
      · have h := (if_neg c35).symm.trans h
        refine am_iload_n F 2 dX5_parseEntry_33 rfl rfl ?_
        refine am_bipush F (v := (102 : Int32)) dX5_parseEntry_34 (by decide) ?_
        refine am_icmp_eq F (tgt := 47) dX5_parseEntry_36 (by decide) (fun c34 => ?_) (fun c34 => ?_)
        · have h := (if_pos c34).symm.trans h
          exact am_sub (lv' := [(0, .ref (z + 169)), (1, .int a1), (2, .int as0)]) [1, 2, 0] rfl (cj_X5_parseEntry_J47 F hr a1 as0 M r0 M1 h)
        · have h := (if_neg c34).symm.trans h
          refine am_iload_n F 2 dX5_parseEntry_39 rfl rfl ?_
          refine am_bipush F (v := (114 : Int32)) dX5_parseEntry_40 (by decide) ?_
          refine am_icmp_eq F (tgt := 47) dX5_parseEntry_42 (by decide) (fun c33 => ?_) (fun c33 => ?_)
          · have h := (if_pos c33).symm.trans h
            exact am_sub (lv' := [(0, .ref (z + 169)), (1, .int a1), (2, .int as0)]) [1, 2, 0] rfl (cj_X5_parseEntry_J47 F hr a1 as0 M r0 M1 h)
          · have h := (if_neg c33).symm.trans h
            refine am_iconst F (v := (0 : Int32)) dX5_parseEntry_45 (by decide) ?_
            exact am_zret F hr (by decide) h dX5_parseEntry_46
def g_X5_parseEntry  (M : am_M) : Option (Int32 × am_M) := (am_b (g_X5_peek  M) (fun v3 M2 => (if v3 = (108 : Int32) then (g_X5_parseEntry_J16 v3 (1 : Int32) M2) else (g_X5_parseEntry_J16 v3 (0 : Int32) M2))))
set_option maxHeartbeats 4000000 in
set_option maxRecDepth 100000 in
theorem c_X5_parseEntry (l : Launch) (D : va_G) (E : Nat → ClassId) (z : Nat)  (M : am_M) (r0 : Int32) (M1 : am_M) (h : g_X5_parseEntry  M = some (r0, M1)) : am_Mi l yX5_parseEntry cX5_parseEntry 3 (some .boolean) rm_X5_parseEntry D E z [.ref (z + 169)] M r0 M1 := by
  unfold g_X5_parseEntry at h
  refine am_of (own := RX5) (by decide +kernel) rfl (by exact Nat.le_of_ble_eq_true rfl) ?_
  intro p e s m args below meth c F hr
  show am_W p l e rm_X5_parseEntry s m args below meth c _ 3 D E z 0 0 M 0 [(0, .ref (z + 169))] []
  refine am_aload_n F 0 dX5_parseEntry_0 rfl rfl ?_
  obtain ⟨v3, M2, h1, h⟩ := am_bE h
  refine am_callVi F [] lyk_169 (by decide) rfl cw_X5_42 (c_X5_peek l D E z  M v3 M2 h1) yn_X5_peek rfl ⟨Nat.le_of_ble_eq_true rfl, Nat.le_of_ble_eq_true rfl⟩ rfl rfl (Nat.le_of_ble_eq_true rfl) ⟨Nat.zero_le _, Nat.zero_le _⟩ dX5_parseEntry_1 rfl ?_
  refine am_istore_n F [(1, .int v3), (0, .ref (z + 169))] dX5_parseEntry_4 rfl (by decide) rfl ?_
  refine am_iload_n F 0 dX5_parseEntry_5 rfl rfl ?_
  refine am_bipush F (v := (108 : Int32)) dX5_parseEntry_6 (by decide) ?_
  refine am_icmp_ne F (tgt := 15) dX5_parseEntry_8 (by decide) (fun c38 => ?_) (fun c38 => ?_)
  · have h := (if_neg c38).symm.trans h
    refine am_iconst F (v := (0 : Int32)) dX5_parseEntry_15 (by decide) ?_
    exact am_sub (lv' := [(0, .ref (z + 169)), (1, .int v3)]) [1, 0] rfl (cj_X5_parseEntry_J16 F hr v3 (0 : Int32) M2 r0 M1 h)
  · have h := (if_pos c38).symm.trans h
    refine am_iconst F (v := (1 : Int32)) dX5_parseEntry_11 (by decide) ?_
    refine am_goto F (tgt := 16) dX5_parseEntry_12 (by decide) ?_
    exact am_sub (lv' := [(0, .ref (z + 169)), (1, .int v3)]) [1, 0] rfl (cj_X5_parseEntry_J16 F hr v3 (1 : Int32) M2 r0 M1 h)
