/-! printed by wip/whole/drive.py -/
/-! AisleSchedulerModel.cellsOf(I)I -/
abbrev rm_X10_cellsOf : Room := { frames := 1, cells := 0, slots := 0, locals := 24 }
theorem yn_X10_cellsOf : am_yn yX10_cellsOf 1 := ⟨⟨by decide +kernel, by decide +kernel⟩, by decide +kernel⟩
def g_X10_cellsOf_L4 (a1 : Int32) : Nat → Int32 → Int32 → am_M → Option ((Int32) × am_M)
  | 0, _, _, _ => none
  | n + 1, a2, a3, M => (if (40 : Int32) ≤ a3 then (some (a2, M)) else (am_ci ((8 : Int32) + a3) 406 (if (am_g M 175 ((8 : Int32) + a3).toNatClampNeg) = a1 then (g_X10_cellsOf_L4 a1 n (a2 + (1 : Int32)) (a3 + (1 : Int32)) M) else (g_X10_cellsOf_L4 a1 n (a2 + (0 : Int32)) (a3 + (1 : Int32)) M))))
set_option maxHeartbeats 4000000 in
set_option maxRecDepth 100000 in
theorem cl_X10_cellsOf_L4 {l : Launch} {p : Program} {e : Env} {s : State} {m : MethodId} {args : Array Value} {below : List Frame} {meth : Method} {c : Code} {Q : State → Prop} {D : va_G} {E : Nat → ClassId} {z : Nat} (F : am_F p s m args meth c cX10_cellsOf 4 RX10 D E z) (a1 : Int32) : ∀ (n : Nat) (a2 : Int32) (a3 : Int32) (M : am_M) (x : Int32) (M1 : am_M), g_X10_cellsOf_L4 a1 n a2 a3 M = some (x, M1) → (am_W p l e rm_X10_cellsOf s m args below meth c Q 4 D E z 0 0 M1 37 [(2, .int x)] []) → am_W p l e rm_X10_cellsOf s m args below meth c Q 4 D E z 0 0 M 4 [(0, .ref (z + 174)), (1, .int a1), (2, .int a2), (3, .int a3)] [] := by
  intro n
  induction n with
  | zero => intro a2 a3 M x M1 h K; cases h
  | succ n ih =>
    intro a2 a3 M x M1 h K
    rw [g_X10_cellsOf_L4] at h
    refine am_iload_n F 3 dX10_cellsOf_4 rfl rfl ?_
    refine am_bipush F (v := (40 : Int32)) dX10_cellsOf_5 (by decide) ?_
    refine am_icmp_ge F (tgt := 37) dX10_cellsOf_7 (by decide) (fun c3 => ?_) (fun c3 => ?_)
    · have h := (if_pos c3).symm.trans h
      cases h
      exact am_sub (lv' := [(2, .int a2)]) [2] rfl (K)
    · have h := (if_neg c3).symm.trans h
      refine am_iload_n F 2 dX10_cellsOf_10 rfl rfl ?_
      refine am_aload_n F 0 dX10_cellsOf_11 rfl rfl ?_
      refine gf_X10_7 F lyk_174 dX10_cellsOf_12 ?_
      refine am_bipush F (v := (8 : Int32)) dX10_cellsOf_15 (by decide) ?_
      refine am_iload_n F 3 dX10_cellsOf_17 rfl rfl ?_
      refine am_iadd F dX10_cellsOf_18 ?_
      obtain ⟨q1, h⟩ := am_ciE h
      refine am_iald F lyk_175 q1 dX10_cellsOf_19 ?_
      refine am_iload_n F 1 dX10_cellsOf_20 rfl rfl ?_
      refine am_icmp_ne F (tgt := 28) dX10_cellsOf_21 (by decide) (fun c2 => ?_) (fun c2 => ?_)
      · have h := (if_neg c2).symm.trans h
        refine am_iconst F (v := (0 : Int32)) dX10_cellsOf_28 (by decide) ?_
        refine am_iadd F dX10_cellsOf_29 ?_
        refine am_istore_n F [(2, .int (a2 + (0 : Int32))), (0, .ref (z + 174)), (1, .int a1), (3, .int a3)] dX10_cellsOf_30 rfl (by decide) rfl ?_
        refine am_iinc F [(3, .int (a3 + (1 : Int32))), (2, .int (a2 + (0 : Int32))), (0, .ref (z + 174)), (1, .int a1)] 3 dX10_cellsOf_31 (by decide) rfl rfl rfl ?_
        refine am_goto F (tgt := 4) dX10_cellsOf_34 (by decide) ?_
        exact am_sub (lv' := [(0, .ref (z + 174)), (1, .int a1), (2, .int (a2 + (0 : Int32))), (3, .int (a3 + (1 : Int32)))]) [2, 3, 1, 0] rfl (ih (a2 + (0 : Int32)) (a3 + (1 : Int32)) M _ _ h K)
      · have h := (if_pos c2).symm.trans h
        refine am_iconst F (v := (1 : Int32)) dX10_cellsOf_24 (by decide) ?_
        refine am_goto F (tgt := 29) dX10_cellsOf_25 (by decide) ?_
        refine am_iadd F dX10_cellsOf_29 ?_
        refine am_istore_n F [(2, .int (a2 + (1 : Int32))), (0, .ref (z + 174)), (1, .int a1), (3, .int a3)] dX10_cellsOf_30 rfl (by decide) rfl ?_
        refine am_iinc F [(3, .int (a3 + (1 : Int32))), (2, .int (a2 + (1 : Int32))), (0, .ref (z + 174)), (1, .int a1)] 3 dX10_cellsOf_31 (by decide) rfl rfl rfl ?_
        refine am_goto F (tgt := 4) dX10_cellsOf_34 (by decide) ?_
        exact am_sub (lv' := [(0, .ref (z + 174)), (1, .int a1), (2, .int (a2 + (1 : Int32))), (3, .int (a3 + (1 : Int32)))]) [2, 3, 1, 0] rfl (ih (a2 + (1 : Int32)) (a3 + (1 : Int32)) M _ _ h K)
def g_X10_cellsOf (a1 : Int32) (M : am_M) : Option (Int32 × am_M) := (am_b (g_X10_cellsOf_L4 a1 am_fu (0 : Int32) (0 : Int32) M) (fun x4 M5 => (some (x4, M5))))
set_option maxHeartbeats 4000000 in
set_option maxRecDepth 100000 in
theorem c_X10_cellsOf (l : Launch) (D : va_G) (E : Nat → ClassId) (z : Nat) (a1 : Int32) (M : am_M) (r0 : Int32) (M1 : am_M) (h : g_X10_cellsOf a1 M = some (r0, M1)) : am_Mi l yX10_cellsOf cX10_cellsOf 4 (some .int) rm_X10_cellsOf D E z [.ref (z + 174), .int a1] M r0 M1 := by
  unfold g_X10_cellsOf at h
  refine am_of (own := RX10) (by decide +kernel) rfl (by exact Nat.le_of_ble_eq_true rfl) ?_
  intro p e s m args below meth c F hr
  show am_W p l e rm_X10_cellsOf s m args below meth c _ 4 D E z 0 0 M 0 [(0, .ref (z + 174)), (1, .int a1)] []
  refine am_iconst F (v := (0 : Int32)) dX10_cellsOf_0 (by decide) ?_
  refine am_istore_n F [(2, .int (0 : Int32)), (0, .ref (z + 174)), (1, .int a1)] dX10_cellsOf_1 rfl (by decide) rfl ?_
  refine am_iconst F (v := (0 : Int32)) dX10_cellsOf_2 (by decide) ?_
  refine am_istore_n F [(3, .int (0 : Int32)), (2, .int (0 : Int32)), (0, .ref (z + 174)), (1, .int a1)] dX10_cellsOf_3 rfl (by decide) rfl ?_
  obtain ⟨x4, M5, h6, h⟩ := am_bE h
  refine am_sub (lv' := [(0, .ref (z + 174)), (1, .int a1), (2, .int (0 : Int32)), (3, .int (0 : Int32))]) [2, 3, 1, 0] rfl (cl_X10_cellsOf_L4 F a1 am_fu (0 : Int32) (0 : Int32) M x4 M5 h6 ?_)
  refine am_iload_n F 0 dX10_cellsOf_37 rfl rfl ?_
  exact am_iret F hr h dX10_cellsOf_38
/-! AisleSchedulerModel.count(I)I -/
abbrev rm_X10_count : Room := { frames := 2, cells := 0, slots := 0, locals := 47 }
theorem yn_X10_count : am_yn yX10_count 1 := ⟨⟨by decide +kernel, by decide +kernel⟩, by decide +kernel⟩
def g_X10_count (a1 : Int32) (M : am_M) : Option (Int32 × am_M) := (if a1 = (0 : Int32) then (am_ci (6 : Int32) 406 (some ((am_g (am_s M 174 0 (0 : Int32)) 175 (6 : Int32).toNatClampNeg), (am_s M 174 0 (0 : Int32))))) else (if a1 = (1 : Int32) then (am_ci (1 : Int32) 406 (some ((am_g (am_s M 174 0 (0 : Int32)) 175 (1 : Int32).toNatClampNeg), (am_s M 174 0 (0 : Int32))))) else (if a1 = (2 : Int32) then (am_ci (7 : Int32) 406 (some ((am_g (am_s M 174 0 (0 : Int32)) 175 (7 : Int32).toNatClampNeg), (am_s M 174 0 (0 : Int32))))) else (if a1 = (3 : Int32) then (am_b (g_X10_cellsOf (1 : Int32) (am_s M 174 0 (0 : Int32))) (fun v10 M9 => (some (v10, M9)))) else (if a1 = (4 : Int32) then (am_b (g_X10_cellsOf (2 : Int32) (am_s M 174 0 (0 : Int32))) (fun v14 M13 => (some (v14, M13)))) else (if a1 = (5 : Int32) then (am_ci (0 : Int32) 406 (some ((am_g (am_s M 174 0 (0 : Int32)) 175 (0 : Int32).toNatClampNeg), (am_s M 174 0 (0 : Int32))))) else (am_b (g_X10_fails (1 : Int32) (am_s M 174 0 (0 : Int32))) (fun v19 M18 => (some (v19, M18))))))))))
set_option maxHeartbeats 4000000 in
set_option maxRecDepth 100000 in
theorem c_X10_count (l : Launch) (D : va_G) (E : Nat → ClassId) (z : Nat) (a1 : Int32) (M : am_M) (r0 : Int32) (M1 : am_M) (h : g_X10_count a1 M = some (r0, M1)) : am_Mi l yX10_count cX10_count 2 (some .int) rm_X10_count D E z [.ref (z + 174), .int a1] M r0 M1 := by
  unfold g_X10_count at h
  refine am_of (own := RX10) (by decide +kernel) rfl (by exact Nat.le_of_ble_eq_true rfl) ?_
  intro p e s m args below meth c F hr
  show am_W p l e rm_X10_count s m args below meth c _ 2 D E z 0 0 M 0 [(0, .ref (z + 174)), (1, .int a1)] []
  refine am_aload_n F 0 dX10_count_0 rfl rfl ?_
  refine am_iconst F (v := (0 : Int32)) dX10_count_1 (by decide) ?_
  refine pf_X10_51 F lyk_174 dX10_count_2 ?_
  refine am_iload_n F 1 dX10_count_5 rfl rfl ?_
  by_cases c1 : a1 = (0 : Int32)
  · have h := (if_pos c1).symm.trans h
    refine am_tabIn F 0 (tgt := 44) dX10_count_6 (by rw [c1]; decide) rfl rfl (by decide) ?_
    refine am_aload_n F 0 dX10_count_44 rfl rfl ?_
    refine gf_X10_7 F lyk_174 dX10_count_45 ?_
    refine am_bipush F (v := (6 : Int32)) dX10_count_48 (by decide) ?_
    obtain ⟨q2, h⟩ := am_ciE h
    refine am_iald F lyk_175 q2 dX10_count_50 ?_
    exact am_iret F hr h dX10_count_51
  · have h := (if_neg c1).symm.trans h
    by_cases c3 : a1 = (1 : Int32)
    · have h := (if_pos c3).symm.trans h
      refine am_tabIn F 1 (tgt := 52) dX10_count_6 (by rw [c3]; decide) rfl rfl (by decide) ?_
      refine am_aload_n F 0 dX10_count_52 rfl rfl ?_
      refine gf_X10_7 F lyk_174 dX10_count_53 ?_
      refine am_iconst F (v := (1 : Int32)) dX10_count_56 (by decide) ?_
      obtain ⟨q4, h⟩ := am_ciE h
      refine am_iald F lyk_175 q4 dX10_count_57 ?_
      exact am_iret F hr h dX10_count_58
    · have h := (if_neg c3).symm.trans h
      by_cases c5 : a1 = (2 : Int32)
      · have h := (if_pos c5).symm.trans h
        refine am_tabIn F 2 (tgt := 59) dX10_count_6 (by rw [c5]; decide) rfl rfl (by decide) ?_
        refine am_aload_n F 0 dX10_count_59 rfl rfl ?_
        refine gf_X10_7 F lyk_174 dX10_count_60 ?_
        refine am_bipush F (v := (7 : Int32)) dX10_count_63 (by decide) ?_
        obtain ⟨q6, h⟩ := am_ciE h
        refine am_iald F lyk_175 q6 dX10_count_65 ?_
        exact am_iret F hr h dX10_count_66
      · have h := (if_neg c5).symm.trans h
        by_cases c7 : a1 = (3 : Int32)
        · have h := (if_pos c7).symm.trans h
          refine am_tabIn F 3 (tgt := 67) dX10_count_6 (by rw [c7]; decide) rfl rfl (by decide) ?_
          refine am_aload_n F 0 dX10_count_67 rfl rfl ?_
          refine am_iconst F (v := (1 : Int32)) dX10_count_68 (by decide) ?_
          obtain ⟨v10, M9, h8, h⟩ := am_bE h
          refine am_callVi F [.int (1 : Int32)] lyk_174 (by decide) rfl cw_X10_182 (c_X10_cellsOf l D E z (1 : Int32) (am_s M 174 0 (0 : Int32)) v10 M9 h8) yn_X10_cellsOf rfl ⟨Nat.le_of_ble_eq_true rfl, Nat.le_of_ble_eq_true rfl⟩ rfl rfl (Nat.le_of_ble_eq_true rfl) ⟨Nat.zero_le _, Nat.zero_le _⟩ dX10_count_69 rfl ?_
          exact am_iret F hr h dX10_count_72
        · have h := (if_neg c7).symm.trans h
          by_cases c11 : a1 = (4 : Int32)
          · have h := (if_pos c11).symm.trans h
            refine am_tabIn F 4 (tgt := 73) dX10_count_6 (by rw [c11]; decide) rfl rfl (by decide) ?_
            refine am_aload_n F 0 dX10_count_73 rfl rfl ?_
            refine am_iconst F (v := (2 : Int32)) dX10_count_74 (by decide) ?_
            obtain ⟨v14, M13, h12, h⟩ := am_bE h
            refine am_callVi F [.int (2 : Int32)] lyk_174 (by decide) rfl cw_X10_182 (c_X10_cellsOf l D E z (2 : Int32) (am_s M 174 0 (0 : Int32)) v14 M13 h12) yn_X10_cellsOf rfl ⟨Nat.le_of_ble_eq_true rfl, Nat.le_of_ble_eq_true rfl⟩ rfl rfl (Nat.le_of_ble_eq_true rfl) ⟨Nat.zero_le _, Nat.zero_le _⟩ dX10_count_75 rfl ?_
            exact am_iret F hr h dX10_count_78
          · have h := (if_neg c11).symm.trans h
            by_cases c15 : a1 = (5 : Int32)
            · have h := (if_pos c15).symm.trans h
              refine am_tabIn F 5 (tgt := 79) dX10_count_6 (by rw [c15]; decide) rfl rfl (by decide) ?_
              refine am_aload_n F 0 dX10_count_79 rfl rfl ?_
              refine gf_X10_7 F lyk_174 dX10_count_80 ?_
              refine am_iconst F (v := (0 : Int32)) dX10_count_83 (by decide) ?_
              obtain ⟨q16, h⟩ := am_ciE h
              refine am_iald F lyk_175 q16 dX10_count_84 ?_
              exact am_iret F hr h dX10_count_85
            · have h := (if_neg c15).symm.trans h
              have hsw := am_sw (x := a1) (lo := 0) (n := 6) (by decide) (by decide) (fun j hj => match j, hj with | 0, _ => c1 | 1, _ => c3 | 2, _ => c5 | 3, _ => c7 | 4, _ => c11 | 5, _ => c15)
              refine am_tabOut F (tgt := 86) dX10_count_6 (hsw.imp_right (fun h9 => by omega)) (by decide) ?_
              refine am_aload_n F 0 dX10_count_86 rfl rfl ?_
              refine am_iconst F (v := (1 : Int32)) dX10_count_87 (by decide) ?_
              obtain ⟨v19, M18, h17, h⟩ := am_bE h
              refine am_callVi F [.int (1 : Int32)] lyk_174 (by decide) rfl cw_X10_164 (c_X10_fails l D E z (1 : Int32) (am_s M 174 0 (0 : Int32)) v19 M18 h17) yn_X10_fails rfl ⟨Nat.le_of_ble_eq_true rfl, Nat.le_of_ble_eq_true rfl⟩ rfl rfl (Nat.le_of_ble_eq_true rfl) ⟨Nat.zero_le _, Nat.zero_le _⟩ dX10_count_88 rfl ?_
              exact am_iret F hr h dX10_count_91
/-! AisleSchedulerModel.relaxes(I)V -/
abbrev rm_X10_relaxes : Room := { frames := 3, cells := 0, slots := 0, locals := 70 }
theorem yn_X10_relaxes : am_yn yX10_relaxes 1 := ⟨⟨by decide +kernel, by decide +kernel⟩, by decide +kernel⟩
def g_X10_relaxes_L2 (a1 : Int32) : Nat → Int32 → am_M → Option ((Unit) × am_M)
  | 0, _, _ => none
  | n + 1, a2, M => (if (7 : Int32) ≤ a2 then (some ((), M)) else (am_b (g_X10_moved a1 a2 M) (fun v3 M2 => (if v3 = (-1 : Int32) then (g_X10_relaxes_L2 a1 n (a2 + (1 : Int32)) M2) else (am_b (g_X10_isWall v3 M2) (fun v6 M5 => (if v6 = (0 : Int32) then (am_ci v3 40 (am_ci a1 40 (am_b (g_X10_takes a2 M5) (fun v11 M10 => (am_ci v3 40 (g_X10_relaxes_L2 a1 n (a2 + (1 : Int32)) (am_s M10 185 v3.toNatClampNeg (if ((am_g M5 185 a1.toNatClampNeg) + v11) < (am_g M5 185 v3.toNatClampNeg) then ((am_g M5 185 a1.toNatClampNeg) + v11) else (am_g M5 185 v3.toNatClampNeg))))))))) else (g_X10_relaxes_L2 a1 n (a2 + (1 : Int32)) M5))))))))
set_option maxHeartbeats 4000000 in
set_option maxRecDepth 100000 in
theorem cl_X10_relaxes_L2 {l : Launch} {p : Program} {e : Env} {s : State} {m : MethodId} {args : Array Value} {below : List Frame} {meth : Method} {c : Code} {Q : State → Prop} {D : va_G} {E : Nat → ClassId} {z : Nat} (F : am_F p s m args meth c cX10_relaxes 4 RX10 D E z) (a1 : Int32) : ∀ (n : Nat) (a2 : Int32) (M : am_M) (x : Unit) (M1 : am_M), g_X10_relaxes_L2 a1 n a2 M = some (x, M1) → (am_W p l e rm_X10_relaxes s m args below meth c Q 4 D E z 0 0 M1 60 [] []) → am_W p l e rm_X10_relaxes s m args below meth c Q 4 D E z 0 0 M 2 [(0, .ref (z + 174)), (1, .int a1), (2, .int a2)] [] := by
  intro n
  induction n with
  | zero => intro a2 M x M1 h K; cases h
  | succ n ih =>
    intro a2 M x M1 h K
    rw [g_X10_relaxes_L2] at h
    refine am_iload_n F 2 dX10_relaxes_2 rfl rfl ?_
    refine am_bipush F (v := (7 : Int32)) dX10_relaxes_3 (by decide) ?_
    refine am_icmp_ge F (tgt := 60) dX10_relaxes_5 (by decide) (fun c15 => ?_) (fun c15 => ?_)
    · have h := (if_pos c15).symm.trans h
      cases h
      exact am_sub (lv' := []) [] rfl (K)
    · have h := (if_neg c15).symm.trans h
      refine am_aload_n F 0 dX10_relaxes_8 rfl rfl ?_
      refine am_iload_n F 1 dX10_relaxes_9 rfl rfl ?_
      refine am_iload_n F 2 dX10_relaxes_10 rfl rfl ?_
      obtain ⟨v3, M2, h1, h⟩ := am_bE h
      refine am_callVi F [.int a1, .int a2] lyk_174 (by decide) rfl cw_X10_72 (c_X10_moved l D E z a1 a2 M v3 M2 h1) yn_X10_moved rfl ⟨Nat.le_of_ble_eq_true rfl, Nat.le_of_ble_eq_true rfl⟩ rfl rfl (Nat.le_of_ble_eq_true rfl) ⟨Nat.zero_le _, Nat.zero_le _⟩ dX10_relaxes_11 rfl ?_
      refine am_istore_n F [(3, .int v3), (0, .ref (z + 174)), (1, .int a1), (2, .int a2)] dX10_relaxes_14 rfl (by decide) rfl ?_
      refine am_iload_n F 0 dX10_relaxes_15 rfl rfl ?_
      refine am_iconst F (v := (-1 : Int32)) dX10_relaxes_16 (by decide) ?_
      refine am_icmp_eq F (tgt := 54) dX10_relaxes_17 (by decide) (fun c14 => ?_) (fun c14 => ?_)
      · have h := (if_pos c14).symm.trans h
        refine am_iinc F [(2, .int (a2 + (1 : Int32))), (3, .int v3), (0, .ref (z + 174)), (1, .int a1)] 3 dX10_relaxes_54 (by decide) rfl rfl rfl ?_
        refine am_goto F (tgt := 2) dX10_relaxes_57 (by decide) ?_
        exact am_sub (lv' := [(0, .ref (z + 174)), (1, .int a1), (2, .int (a2 + (1 : Int32)))]) [2, 3, 0] rfl (ih (a2 + (1 : Int32)) M2 _ _ h K)
      · have h := (if_neg c14).symm.trans h
        refine am_aload_n F 1 dX10_relaxes_20 rfl rfl ?_
        refine am_iload_n F 0 dX10_relaxes_21 rfl rfl ?_
        obtain ⟨v6, M5, h4, h⟩ := am_bE h
        refine am_callVi F [.int v3] lyk_174 (by decide) rfl cw_X10_79 (c_X10_isWall l D E z v3 M2 v6 M5 h4) yn_X10_isWall rfl ⟨Nat.le_of_ble_eq_true rfl, Nat.le_of_ble_eq_true rfl⟩ rfl rfl (Nat.le_of_ble_eq_true rfl) ⟨Nat.zero_le _, Nat.zero_le _⟩ dX10_relaxes_22 rfl ?_
        refine am_if_ne F (tgt := 54) dX10_relaxes_25 (by decide) (fun c13 => ?_) (fun c13 => ?_)
        · have h := (if_neg c13).symm.trans h
          refine am_iinc F [(2, .int (a2 + (1 : Int32))), (3, .int v3), (0, .ref (z + 174)), (1, .int a1)] 3 dX10_relaxes_54 (by decide) rfl rfl rfl ?_
          refine am_goto F (tgt := 2) dX10_relaxes_57 (by decide) ?_
          exact am_sub (lv' := [(0, .ref (z + 174)), (1, .int a1), (2, .int (a2 + (1 : Int32)))]) [2, 3, 0] rfl (ih (a2 + (1 : Int32)) M5 _ _ h K)
        · have h := (if_pos c13).symm.trans h
          refine am_aload_n F 1 dX10_relaxes_28 rfl rfl ?_
          refine gf_X10_48 F lyk_174 dX10_relaxes_29 ?_
          refine am_iload_n F 0 dX10_relaxes_32 rfl rfl ?_
          refine am_aload_n F 1 dX10_relaxes_33 rfl rfl ?_
          refine gf_X10_48 F lyk_174 dX10_relaxes_34 ?_
          refine am_iload_n F 0 dX10_relaxes_37 rfl rfl ?_
          obtain ⟨q7, h⟩ := am_ciE h
          refine am_iald F lyk_185 q7 dX10_relaxes_38 ?_
          refine am_aload_n F 1 dX10_relaxes_39 rfl rfl ?_
          refine gf_X10_48 F lyk_174 dX10_relaxes_40 ?_
          refine am_iload_n F 2 dX10_relaxes_43 rfl rfl ?_
          obtain ⟨q8, h⟩ := am_ciE h
          refine am_iald F lyk_185 q8 dX10_relaxes_44 ?_
          refine am_iload_n F 3 dX10_relaxes_45 rfl rfl ?_
          obtain ⟨v11, M10, h9, h⟩ := am_bE h
          refine am_callSi F [.int a2] cw_X10_68 rfl (c_X10_takes l D E z a2 M5 v11 M10 h9) yn_X10_takes rfl ⟨Nat.le_of_ble_eq_true rfl, Nat.le_of_ble_eq_true rfl⟩ rfl rfl (Nat.le_of_ble_eq_true rfl) ⟨Nat.zero_le _, Nat.zero_le _⟩ dX10_relaxes_46 rfl ?_
          refine am_iadd F dX10_relaxes_49 ?_
          refine am_min F dX10_relaxes_50 wd_1485 (Nat.le_of_ble_eq_true rfl) (Nat.le_of_ble_eq_true rfl) (Nat.le_of_ble_eq_true rfl) (Nat.le_of_ble_eq_true rfl) ?_
          obtain ⟨q12, h⟩ := am_ciE h
          refine am_iast F lyk_185 q12 dX10_relaxes_53 ?_
          refine am_iinc F [(2, .int (a2 + (1 : Int32))), (3, .int v3), (0, .ref (z + 174)), (1, .int a1)] 3 dX10_relaxes_54 (by decide) rfl rfl rfl ?_
          refine am_goto F (tgt := 2) dX10_relaxes_57 (by decide) ?_
          exact am_sub (lv' := [(0, .ref (z + 174)), (1, .int a1), (2, .int (a2 + (1 : Int32)))]) [2, 3, 0] rfl (ih (a2 + (1 : Int32)) (am_s M10 185 v3.toNatClampNeg (if ((am_g M5 185 a1.toNatClampNeg) + v11) < (am_g M5 185 v3.toNatClampNeg) then ((am_g M5 185 a1.toNatClampNeg) + v11) else (am_g M5 185 v3.toNatClampNeg))) _ _ h K)
def g_X10_relaxes (a1 : Int32) (M : am_M) : Option (Unit × am_M) := (am_b (g_X10_relaxes_L2 a1 am_fu (1 : Int32) M) (fun x16 M17 => (some ((), M17))))
set_option maxHeartbeats 4000000 in
set_option maxRecDepth 100000 in
theorem c_X10_relaxes (l : Launch) (D : va_G) (E : Nat → ClassId) (z : Nat) (a1 : Int32) (M : am_M)  (M1 : am_M) (h : g_X10_relaxes a1 M = some ((), M1)) : am_Mv l yX10_relaxes cX10_relaxes 4 none rm_X10_relaxes D E z [.ref (z + 174), .int a1] M M1 := by
  unfold g_X10_relaxes at h
  refine am_of (own := RX10) (by decide +kernel) rfl (by exact Nat.le_of_ble_eq_true rfl) ?_
  intro p e s m args below meth c F hr
  show am_W p l e rm_X10_relaxes s m args below meth c _ 4 D E z 0 0 M 0 [(0, .ref (z + 174)), (1, .int a1)] []
  refine am_iconst F (v := (1 : Int32)) dX10_relaxes_0 (by decide) ?_
  refine am_istore_n F [(2, .int (1 : Int32)), (0, .ref (z + 174)), (1, .int a1)] dX10_relaxes_1 rfl (by decide) rfl ?_
  obtain ⟨x16, M17, h18, h⟩ := am_bE h
  refine am_sub (lv' := [(0, .ref (z + 174)), (1, .int a1), (2, .int (1 : Int32))]) [1, 2, 0] rfl (cl_X10_relaxes_L2 F a1 am_fu (1 : Int32) M x16 M17 h18 ?_)
  exact am_vret F hr h dX10_relaxes_60
/-! AisleSchedulerModel.measures(I)V -/
abbrev rm_X10_measures : Room := { frames := 4, cells := 0, slots := 0, locals := 93 }
theorem yn_X10_measures : am_yn yX10_measures 1 := ⟨⟨by decide +kernel, by decide +kernel⟩, by decide +kernel⟩
def g_X10_measures_L2 (a1 : Int32) : Nat → Int32 → am_M → Option ((Unit) × am_M)
  | 0, _, _ => none
  | n + 1, a2, M => (if (40 : Int32) ≤ a2 then (some ((), M)) else (am_ci a2 40 (g_X10_measures_L2 a1 n (a2 + (1 : Int32)) (am_s M 185 a2.toNatClampNeg (1000000 : Int32)))))
set_option maxHeartbeats 4000000 in
set_option maxRecDepth 100000 in
theorem cl_X10_measures_L2 {l : Launch} {p : Program} {e : Env} {s : State} {m : MethodId} {args : Array Value} {below : List Frame} {meth : Method} {c : Code} {Q : State → Prop} {D : va_G} {E : Nat → ClassId} {z : Nat} (F : am_F p s m args meth c cX10_measures 4 RX10 D E z) (a1 : Int32) : ∀ (n : Nat) (a2 : Int32) (M : am_M) (x : Unit) (M1 : am_M), g_X10_measures_L2 a1 n a2 M = some (x, M1) → (am_W p l e rm_X10_measures s m args below meth c Q 4 D E z 0 0 M1 22 [(0, .ref (z + 174)), (1, .int a1)] []) → am_W p l e rm_X10_measures s m args below meth c Q 4 D E z 0 0 M 2 [(0, .ref (z + 174)), (1, .int a1), (2, .int a2)] [] := by
  intro n
  induction n with
  | zero => intro a2 M x M1 h K; cases h
  | succ n ih =>
    intro a2 M x M1 h K
    rw [g_X10_measures_L2] at h
    refine am_iload_n F 2 dX10_measures_2 rfl rfl ?_
    refine am_bipush F (v := (40 : Int32)) dX10_measures_3 (by decide) ?_
    refine am_icmp_ge F (tgt := 22) dX10_measures_5 (by decide) (fun c2 => ?_) (fun c2 => ?_)
    · have h := (if_pos c2).symm.trans h
      cases h
      exact am_sub (lv' := [(0, .ref (z + 174)), (1, .int a1)]) [0, 1] rfl (K)
    · have h := (if_neg c2).symm.trans h
      refine am_aload_n F 0 dX10_measures_8 rfl rfl ?_
      refine gf_X10_48 F lyk_174 dX10_measures_9 ?_
      refine am_iload_n F 2 dX10_measures_12 rfl rfl ?_
      refine am_ldc F (v := (1000000 : Int32)) dX10_measures_13 wd_1480 ?_
      obtain ⟨q1, h⟩ := am_ciE h
      refine am_iast F lyk_185 q1 dX10_measures_15 ?_
      refine am_iinc F [(2, .int (a2 + (1 : Int32))), (0, .ref (z + 174)), (1, .int a1)] 2 dX10_measures_16 (by decide) rfl rfl rfl ?_
      refine am_goto F (tgt := 2) dX10_measures_19 (by decide) ?_
      exact am_sub (lv' := [(0, .ref (z + 174)), (1, .int a1), (2, .int (a2 + (1 : Int32)))]) [1, 2, 0] rfl (ih (a2 + (1 : Int32)) (am_s M 185 a2.toNatClampNeg (1000000 : Int32)) _ _ h K)
def g_X10_measures_L47 (a2 : Int32) : Nat → Int32 → am_M → Option ((Unit) × am_M)
  | 0, _, _ => none
  | n + 1, a3, M => (if (40 : Int32) ≤ a3 then (some ((), M)) else (am_ci a3 40 (if (am_g M 185 a3.toNatClampNeg) = a2 then (am_b (g_X10_relaxes a3 M) (fun _ M11 => (g_X10_measures_L47 a2 n (a3 + (1 : Int32)) M11))) else (g_X10_measures_L47 a2 n (a3 + (1 : Int32)) M))))
set_option maxHeartbeats 4000000 in
set_option maxRecDepth 100000 in
theorem cl_X10_measures_L47 {l : Launch} {p : Program} {e : Env} {s : State} {m : MethodId} {args : Array Value} {below : List Frame} {meth : Method} {c : Code} {Q : State → Prop} {D : va_G} {E : Nat → ClassId} {z : Nat} (F : am_F p s m args meth c cX10_measures 4 RX10 D E z) (a2 : Int32) : ∀ (n : Nat) (a3 : Int32) (M : am_M) (x : Unit) (M1 : am_M), g_X10_measures_L47 a2 n a3 M = some (x, M1) → (am_W p l e rm_X10_measures s m args below meth c Q 4 D E z 0 0 M1 74 [(0, .ref (z + 174)), (2, .int a2)] []) → am_W p l e rm_X10_measures s m args below meth c Q 4 D E z 0 0 M 47 [(0, .ref (z + 174)), (2, .int a2), (3, .int a3)] [] := by
  intro n
  induction n with
  | zero => intro a3 M x M1 h K; cases h
  | succ n ih =>
    intro a3 M x M1 h K
    rw [g_X10_measures_L47] at h
    refine am_iload_n F 2 dX10_measures_47 rfl rfl ?_
    refine am_bipush F (v := (40 : Int32)) dX10_measures_48 (by decide) ?_
    refine am_icmp_ge F (tgt := 74) dX10_measures_50 (by decide) (fun c13 => ?_) (fun c13 => ?_)
    · have h := (if_pos c13).symm.trans h
      cases h
      exact am_sub (lv' := [(0, .ref (z + 174)), (2, .int a2)]) [0, 1] rfl (K)
    · have h := (if_neg c13).symm.trans h
      refine am_aload_n F 0 dX10_measures_53 rfl rfl ?_
      refine gf_X10_48 F lyk_174 dX10_measures_54 ?_
      refine am_iload_n F 2 dX10_measures_57 rfl rfl ?_
      obtain ⟨q9, h⟩ := am_ciE h
      refine am_iald F lyk_185 q9 dX10_measures_58 ?_
      refine am_iload_n F 1 dX10_measures_59 rfl rfl ?_
      refine am_icmp_ne F (tgt := 68) dX10_measures_60 (by decide) (fun c12 => ?_) (fun c12 => ?_)
      · have h := (if_neg c12).symm.trans h
        refine am_iinc F [(3, .int (a3 + (1 : Int32))), (0, .ref (z + 174)), (2, .int a2)] 2 dX10_measures_68 (by decide) rfl rfl rfl ?_
        refine am_goto F (tgt := 47) dX10_measures_71 (by decide) ?_
        exact am_sub (lv' := [(0, .ref (z + 174)), (2, .int a2), (3, .int (a3 + (1 : Int32)))]) [1, 2, 0] rfl (ih (a3 + (1 : Int32)) M _ _ h K)
      · have h := (if_pos c12).symm.trans h
        refine am_aload_n F 0 dX10_measures_63 rfl rfl ?_
        refine am_iload_n F 2 dX10_measures_64 rfl rfl ?_
        obtain ⟨_, M11, h10, h⟩ := am_bE h
        refine am_callVv F [.int a3] lyk_174 (by decide) rfl cw_X10_185 (c_X10_relaxes l D E z a3 M M11 h10) yn_X10_relaxes rfl ⟨Nat.le_of_ble_eq_true rfl, Nat.le_of_ble_eq_true rfl⟩ rfl rfl (Nat.le_of_ble_eq_true rfl) ⟨Nat.zero_le _, Nat.zero_le _⟩ dX10_measures_65 rfl ?_
        refine am_iinc F [(3, .int (a3 + (1 : Int32))), (0, .ref (z + 174)), (2, .int a2)] 2 dX10_measures_68 (by decide) rfl rfl rfl ?_
        refine am_goto F (tgt := 47) dX10_measures_71 (by decide) ?_
        exact am_sub (lv' := [(0, .ref (z + 174)), (2, .int a2), (3, .int (a3 + (1 : Int32)))]) [1, 2, 0] rfl (ih (a3 + (1 : Int32)) M11 _ _ h K)
def g_X10_measures_L39  : Nat → Int32 → am_M → Option ((Unit) × am_M)
  | 0, _, _ => none
  | n + 1, a2, M => (if (120 : Int32) ≤ a2 then (some ((), M)) else (am_b (g_X10_measures_L47 a2 am_fu (0 : Int32) M) (fun x14 M15 => (g_X10_measures_L39  n (a2 + (1 : Int32)) M15))))
set_option maxHeartbeats 4000000 in
set_option maxRecDepth 100000 in
theorem cl_X10_measures_L39 {l : Launch} {p : Program} {e : Env} {s : State} {m : MethodId} {args : Array Value} {below : List Frame} {meth : Method} {c : Code} {Q : State → Prop} {D : va_G} {E : Nat → ClassId} {z : Nat} (F : am_F p s m args meth c cX10_measures 4 RX10 D E z)  : ∀ (n : Nat) (a2 : Int32) (M : am_M) (x : Unit) (M1 : am_M), g_X10_measures_L39  n a2 M = some (x, M1) → (am_W p l e rm_X10_measures s m args below meth c Q 4 D E z 0 0 M1 80 [] []) → am_W p l e rm_X10_measures s m args below meth c Q 4 D E z 0 0 M 39 [(0, .ref (z + 174)), (2, .int a2)] [] := by
  intro n
  induction n with
  | zero => intro a2 M x M1 h K; cases h
  | succ n ih =>
    intro a2 M x M1 h K
    rw [g_X10_measures_L39] at h
    refine am_iload_n F 1 dX10_measures_39 rfl rfl ?_
    refine am_bipush F (v := (120 : Int32)) dX10_measures_40 (by decide) ?_
    refine am_icmp_ge F (tgt := 80) dX10_measures_42 (by decide) (fun c17 => ?_) (fun c17 => ?_)
    · have h := (if_pos c17).symm.trans h
      cases h
      exact am_sub (lv' := []) [] rfl (K)
    · have h := (if_neg c17).symm.trans h
      refine am_iconst F (v := (0 : Int32)) dX10_measures_45 (by decide) ?_
      refine am_istore_n F [(3, .int (0 : Int32)), (0, .ref (z + 174)), (2, .int a2)] dX10_measures_46 rfl (by decide) rfl ?_
      obtain ⟨x14, M15, h16, h⟩ := am_bE h
      refine am_sub (lv' := [(0, .ref (z + 174)), (2, .int a2), (3, .int (0 : Int32))]) [1, 2, 0] rfl (cl_X10_measures_L47 F a2 am_fu (0 : Int32) M x14 M15 h16 ?_)
      refine am_iinc F [(2, .int (a2 + (1 : Int32))), (0, .ref (z + 174))] 1 dX10_measures_74 (by decide) rfl rfl rfl ?_
      refine am_goto F (tgt := 39) dX10_measures_77 (by decide) ?_
      exact am_sub (lv' := [(0, .ref (z + 174)), (2, .int (a2 + (1 : Int32)))]) [1, 0] rfl (ih (a2 + (1 : Int32)) M15 _ _ h K)
def g_X10_measures (a1 : Int32) (M : am_M) : Option (Unit × am_M) := (am_b (g_X10_measures_L2 a1 am_fu (0 : Int32) M) (fun x3 M4 => (am_b (g_X10_isWall a1 M4) (fun v8 M7 => (if v8 = (0 : Int32) then (am_ci a1 40 (am_b (g_X10_measures_L39  am_fu (0 : Int32) (am_s M7 185 a1.toNatClampNeg (0 : Int32))) (fun x22 M23 => (some ((), M23))))) else (am_b (g_X10_measures_L39  am_fu (0 : Int32) M7) (fun x18 M19 => (some ((), M19)))))))))
set_option maxHeartbeats 4000000 in
set_option maxRecDepth 100000 in
theorem c_X10_measures (l : Launch) (D : va_G) (E : Nat → ClassId) (z : Nat) (a1 : Int32) (M : am_M)  (M1 : am_M) (h : g_X10_measures a1 M = some ((), M1)) : am_Mv l yX10_measures cX10_measures 4 none rm_X10_measures D E z [.ref (z + 174), .int a1] M M1 := by
  unfold g_X10_measures at h
  refine am_of (own := RX10) (by decide +kernel) rfl (by exact Nat.le_of_ble_eq_true rfl) ?_
  intro p e s m args below meth c F hr
  show am_W p l e rm_X10_measures s m args below meth c _ 4 D E z 0 0 M 0 [(0, .ref (z + 174)), (1, .int a1)] []
  refine am_iconst F (v := (0 : Int32)) dX10_measures_0 (by decide) ?_
  refine am_istore_n F [(2, .int (0 : Int32)), (0, .ref (z + 174)), (1, .int a1)] dX10_measures_1 rfl (by decide) rfl ?_
  obtain ⟨x3, M4, h5, h⟩ := am_bE h
  refine am_sub (lv' := [(0, .ref (z + 174)), (1, .int a1), (2, .int (0 : Int32))]) [1, 2, 0] rfl (cl_X10_measures_L2 F a1 am_fu (0 : Int32) M x3 M4 h5 ?_)
  refine am_aload_n F 0 dX10_measures_22 rfl rfl ?_
  refine am_iload_n F 1 dX10_measures_23 rfl rfl ?_
  obtain ⟨v8, M7, h6, h⟩ := am_bE h
  refine am_callVi F [.int a1] lyk_174 (by decide) rfl cw_X10_79 (c_X10_isWall l D E z a1 M4 v8 M7 h6) yn_X10_isWall rfl ⟨Nat.le_of_ble_eq_true rfl, Nat.le_of_ble_eq_true rfl⟩ rfl rfl (Nat.le_of_ble_eq_true rfl) ⟨Nat.zero_le _, Nat.zero_le _⟩ dX10_measures_24 rfl ?_
  refine am_if_ne F (tgt := 37) dX10_measures_27 (by decide) (fun c25 => ?_) (fun c25 => ?_)
  · have h := (if_neg c25).symm.trans h
    refine am_iconst F (v := (0 : Int32)) dX10_measures_37 (by decide) ?_
    refine am_istore_n F [(2, .int (0 : Int32)), (0, .ref (z + 174)), (1, .int a1)] dX10_measures_38 rfl (by decide) rfl ?_
    obtain ⟨x18, M19, h20, h⟩ := am_bE h
    refine am_sub (lv' := [(0, .ref (z + 174)), (2, .int (0 : Int32))]) [1, 0] rfl (cl_X10_measures_L39 F  am_fu (0 : Int32) M7 x18 M19 h20 ?_)
    exact am_vret F hr h dX10_measures_80
  · have h := (if_pos c25).symm.trans h
    refine am_aload_n F 0 dX10_measures_30 rfl rfl ?_
    refine gf_X10_48 F lyk_174 dX10_measures_31 ?_
    refine am_iload_n F 1 dX10_measures_34 rfl rfl ?_
    refine am_iconst F (v := (0 : Int32)) dX10_measures_35 (by decide) ?_
    obtain ⟨q21, h⟩ := am_ciE h
    refine am_iast F lyk_185 q21 dX10_measures_36 ?_
    refine am_iconst F (v := (0 : Int32)) dX10_measures_37 (by decide) ?_
    refine am_istore_n F [(2, .int (0 : Int32)), (0, .ref (z + 174)), (1, .int a1)] dX10_measures_38 rfl (by decide) rfl ?_
    obtain ⟨x22, M23, h24, h⟩ := am_bE h
    refine am_sub (lv' := [(0, .ref (z + 174)), (2, .int (0 : Int32))]) [1, 0] rfl (cl_X10_measures_L39 F  am_fu (0 : Int32) (am_s M7 185 a1.toNatClampNeg (0 : Int32)) x22 M23 h24 ?_)
    exact am_vret F hr h dX10_measures_80
/-! AisleSchedulerModel.region(I)I -/
abbrev rm_X10_region : Room := { frames := 5, cells := 0, slots := 0, locals := 116 }
theorem yn_X10_region : am_yn yX10_region 1 := ⟨⟨by decide +kernel, by decide +kernel⟩, by decide +kernel⟩
def g_X10_region_L27  : Nat → Int32 → Int32 → am_M → Option ((Int32) × am_M)
  | 0, _, _, _ => none
  | n + 1, a2, a3, M => (if (40 : Int32) ≤ a3 then (some (a2, M)) else (am_ci a3 40 (if (1000000 : Int32) ≤ (am_g M 185 a3.toNatClampNeg) then (g_X10_region_L27  n (a2 + (0 : Int32)) (a3 + (1 : Int32)) M) else (g_X10_region_L27  n (a2 + (1 : Int32)) (a3 + (1 : Int32)) M))))
set_option maxHeartbeats 4000000 in
set_option maxRecDepth 100000 in
theorem cl_X10_region_L27 {l : Launch} {p : Program} {e : Env} {s : State} {m : MethodId} {args : Array Value} {below : List Frame} {meth : Method} {c : Code} {Q : State → Prop} {D : va_G} {E : Nat → ClassId} {z : Nat} (F : am_F p s m args meth c cX10_region 4 RX10 D E z)  : ∀ (n : Nat) (a2 : Int32) (a3 : Int32) (M : am_M) (x : Int32) (M1 : am_M), g_X10_region_L27  n a2 a3 M = some (x, M1) → (am_W p l e rm_X10_region s m args below meth c Q 4 D E z 0 0 M1 58 [(2, .int x)] []) → am_W p l e rm_X10_region s m args below meth c Q 4 D E z 0 0 M 27 [(0, .ref (z + 174)), (2, .int a2), (3, .int a3)] [] := by
  intro n
  induction n with
  | zero => intro a2 a3 M x M1 h K; cases h
  | succ n ih =>
    intro a2 a3 M x M1 h K
    rw [g_X10_region_L27] at h
    refine am_iload_n F 2 dX10_region_27 rfl rfl ?_
    refine am_bipush F (v := (40 : Int32)) dX10_region_28 (by decide) ?_
    refine am_icmp_ge F (tgt := 58) dX10_region_30 (by decide) (fun c8 => ?_) (fun c8 => ?_)
    · have h := (if_pos c8).symm.trans h
      cases h
      exact am_sub (lv' := [(2, .int a2)]) [1] rfl (K)
    · have h := (if_neg c8).symm.trans h
      refine am_iload_n F 1 dX10_region_33 rfl rfl ?_
      refine am_aload_n F 0 dX10_region_34 rfl rfl ?_
      refine gf_X10_48 F lyk_174 dX10_region_35 ?_
      refine am_iload_n F 2 dX10_region_38 rfl rfl ?_
      obtain ⟨q6, h⟩ := am_ciE h
      refine am_iald F lyk_185 q6 dX10_region_39 ?_
      refine am_ldc F (v := (1000000 : Int32)) dX10_region_40 wd_1480 ?_
      refine am_icmp_ge F (tgt := 49) dX10_region_42 (by decide) (fun c7 => ?_) (fun c7 => ?_)
      · have h := (if_pos c7).symm.trans h
        refine am_iconst F (v := (0 : Int32)) dX10_region_49 (by decide) ?_
        refine am_iadd F dX10_region_50 ?_
        refine am_istore_n F [(2, .int (a2 + (0 : Int32))), (0, .ref (z + 174)), (3, .int a3)] dX10_region_51 rfl (by decide) rfl ?_
        refine am_iinc F [(3, .int (a3 + (1 : Int32))), (2, .int (a2 + (0 : Int32))), (0, .ref (z + 174))] 2 dX10_region_52 (by decide) rfl rfl rfl ?_
        refine am_goto F (tgt := 27) dX10_region_55 (by decide) ?_
        exact am_sub (lv' := [(0, .ref (z + 174)), (2, .int (a2 + (0 : Int32))), (3, .int (a3 + (1 : Int32)))]) [2, 1, 0] rfl (ih (a2 + (0 : Int32)) (a3 + (1 : Int32)) M _ _ h K)
      · have h := (if_neg c7).symm.trans h
        refine am_iconst F (v := (1 : Int32)) dX10_region_45 (by decide) ?_
        refine am_goto F (tgt := 50) dX10_region_46 (by decide) ?_
        refine am_iadd F dX10_region_50 ?_
        refine am_istore_n F [(2, .int (a2 + (1 : Int32))), (0, .ref (z + 174)), (3, .int a3)] dX10_region_51 rfl (by decide) rfl ?_
        refine am_iinc F [(3, .int (a3 + (1 : Int32))), (2, .int (a2 + (1 : Int32))), (0, .ref (z + 174))] 2 dX10_region_52 (by decide) rfl rfl rfl ?_
        refine am_goto F (tgt := 27) dX10_region_55 (by decide) ?_
        exact am_sub (lv' := [(0, .ref (z + 174)), (2, .int (a2 + (1 : Int32))), (3, .int (a3 + (1 : Int32)))]) [2, 1, 0] rfl (ih (a2 + (1 : Int32)) (a3 + (1 : Int32)) M _ _ h K)
def g_X10_region (a1 : Int32) (M : am_M) : Option (Int32 × am_M) := (am_b (g_X10_isCell a1 (am_s M 174 0 (0 : Int32))) (fun v3 M2 => (if v3 = (0 : Int32) then (am_b (g_X10_fails (1 : Int32) M2) (fun v14 M13 => (some (v14, M13)))) else (am_b (g_X10_measures a1 M2) (fun _ M5 => (am_b (g_X10_region_L27  am_fu (0 : Int32) (0 : Int32) M5) (fun x9 M10 => (some (x9, M10)))))))))
set_option maxHeartbeats 4000000 in
set_option maxRecDepth 100000 in
theorem c_X10_region (l : Launch) (D : va_G) (E : Nat → ClassId) (z : Nat) (a1 : Int32) (M : am_M) (r0 : Int32) (M1 : am_M) (h : g_X10_region a1 M = some (r0, M1)) : am_Mi l yX10_region cX10_region 4 (some .int) rm_X10_region D E z [.ref (z + 174), .int a1] M r0 M1 := by
  unfold g_X10_region at h
  refine am_of (own := RX10) (by decide +kernel) rfl (by exact Nat.le_of_ble_eq_true rfl) ?_
  intro p e s m args below meth c F hr
  show am_W p l e rm_X10_region s m args below meth c _ 4 D E z 0 0 M 0 [(0, .ref (z + 174)), (1, .int a1)] []
  refine am_aload_n F 0 dX10_region_0 rfl rfl ?_
  refine am_iconst F (v := (0 : Int32)) dX10_region_1 (by decide) ?_
  refine pf_X10_51 F lyk_174 dX10_region_2 ?_
  refine am_iload_n F 1 dX10_region_5 rfl rfl ?_
  obtain ⟨v3, M2, h1, h⟩ := am_bE h
  refine am_callSi F [.int a1] cw_X10_161 rfl (c_X10_isCell l D E z a1 (am_s M 174 0 (0 : Int32)) v3 M2 h1) yn_X10_isCell rfl ⟨Nat.le_of_ble_eq_true rfl, Nat.le_of_ble_eq_true rfl⟩ rfl rfl (Nat.le_of_ble_eq_true rfl) ⟨Nat.zero_le _, Nat.zero_le _⟩ dX10_region_6 rfl ?_
  refine am_if_ne F (tgt := 18) dX10_region_9 (by decide) (fun c15 => ?_) (fun c15 => ?_)
  · have h := (if_neg c15).symm.trans h
    refine am_aload_n F 0 dX10_region_18 rfl rfl ?_
    refine am_iload_n F 1 dX10_region_19 rfl rfl ?_
    obtain ⟨_, M5, h4, h⟩ := am_bE h
    refine am_callVv F [.int a1] lyk_174 (by decide) rfl cw_X10_188 (c_X10_measures l D E z a1 M2 M5 h4) yn_X10_measures rfl ⟨Nat.le_of_ble_eq_true rfl, Nat.le_of_ble_eq_true rfl⟩ rfl rfl (Nat.le_of_ble_eq_true rfl) ⟨Nat.zero_le _, Nat.zero_le _⟩ dX10_region_20 rfl ?_
    refine am_iconst F (v := (0 : Int32)) dX10_region_23 (by decide) ?_
    refine am_istore_n F [(2, .int (0 : Int32)), (0, .ref (z + 174)), (1, .int a1)] dX10_region_24 rfl (by decide) rfl ?_
    refine am_iconst F (v := (0 : Int32)) dX10_region_25 (by decide) ?_
    refine am_istore_n F [(3, .int (0 : Int32)), (2, .int (0 : Int32)), (0, .ref (z + 174)), (1, .int a1)] dX10_region_26 rfl (by decide) rfl ?_
    obtain ⟨x9, M10, h11, h⟩ := am_bE h
    refine am_sub (lv' := [(0, .ref (z + 174)), (2, .int (0 : Int32)), (3, .int (0 : Int32))]) [2, 1, 0] rfl (cl_X10_region_L27 F  am_fu (0 : Int32) (0 : Int32) M5 x9 M10 h11 ?_)
    refine am_iload_n F 0 dX10_region_58 rfl rfl ?_
    exact am_iret F hr h dX10_region_59
  · have h := (if_pos c15).symm.trans h
    refine am_aload_n F 0 dX10_region_12 rfl rfl ?_
    refine am_iconst F (v := (1 : Int32)) dX10_region_13 (by decide) ?_
    obtain ⟨v14, M13, h12, h⟩ := am_bE h
    refine am_callVi F [.int (1 : Int32)] lyk_174 (by decide) rfl cw_X10_164 (c_X10_fails l D E z (1 : Int32) M2 v14 M13 h12) yn_X10_fails rfl ⟨Nat.le_of_ble_eq_true rfl, Nat.le_of_ble_eq_true rfl⟩ rfl rfl (Nat.le_of_ble_eq_true rfl) ⟨Nat.zero_le _, Nat.zero_le _⟩ dX10_region_14 rfl ?_
    exact am_iret F hr h dX10_region_17
/-! AisleSchedulerModel.ticksBetween(II)I -/
abbrev rm_X10_ticksBetween : Room := { frames := 5, cells := 0, slots := 0, locals := 116 }
theorem yn_X10_ticksBetween : am_yn yX10_ticksBetween 2 := ⟨⟨by decide +kernel, by decide +kernel⟩, by decide +kernel⟩
def g_X10_ticksBetween (a1 : Int32) (a2 : Int32) (M : am_M) : Option (Int32 × am_M) := (am_b (g_X10_isCell a1 (am_s M 174 0 (0 : Int32))) (fun v3 M2 => (if v3 = (0 : Int32) then (am_b (g_X10_fails (1 : Int32) M2) (fun v6 M5 => (some (v6, M5)))) else (am_b (g_X10_isCell a2 M2) (fun v9 M8 => (if v9 = (0 : Int32) then (am_b (g_X10_fails (1 : Int32) M8) (fun v20 M19 => (some (v20, M19)))) else (am_b (g_X10_measures a1 M8) (fun _ M11 => (am_ci a2 40 (if (1000000 : Int32) ≤ (am_g M11 185 a2.toNatClampNeg) then (am_b (g_X10_fails (2 : Int32) M11) (fun v15 M14 => (some (v15, M14)))) else (am_ci a2 40 (some ((am_g M11 185 a2.toNatClampNeg), M11)))))))))))))
set_option maxHeartbeats 4000000 in
set_option maxRecDepth 100000 in
theorem c_X10_ticksBetween (l : Launch) (D : va_G) (E : Nat → ClassId) (z : Nat) (a1 : Int32) (a2 : Int32) (M : am_M) (r0 : Int32) (M1 : am_M) (h : g_X10_ticksBetween a1 a2 M = some (r0, M1)) : am_Mi l yX10_ticksBetween cX10_ticksBetween 3 (some .int) rm_X10_ticksBetween D E z [.ref (z + 174), .int a1, .int a2] M r0 M1 := by
  unfold g_X10_ticksBetween at h
  refine am_of (own := RX10) (by decide +kernel) rfl (by exact Nat.le_of_ble_eq_true rfl) ?_
  intro p e s m args below meth c F hr
  show am_W p l e rm_X10_ticksBetween s m args below meth c _ 3 D E z 0 0 M 0 [(0, .ref (z + 174)), (1, .int a1), (2, .int a2)] []
  refine am_aload_n F 0 dX10_ticksBetween_0 rfl rfl ?_
  refine am_iconst F (v := (0 : Int32)) dX10_ticksBetween_1 (by decide) ?_
  refine pf_X10_51 F lyk_174 dX10_ticksBetween_2 ?_
  refine am_iload_n F 1 dX10_ticksBetween_5 rfl rfl ?_
  obtain ⟨v3, M2, h1, h⟩ := am_bE h
  refine am_callSi F [.int a1] cw_X10_161 rfl (c_X10_isCell l D E z a1 (am_s M 174 0 (0 : Int32)) v3 M2 h1) yn_X10_isCell rfl ⟨Nat.le_of_ble_eq_true rfl, Nat.le_of_ble_eq_true rfl⟩ rfl rfl (Nat.le_of_ble_eq_true rfl) ⟨Nat.zero_le _, Nat.zero_le _⟩ dX10_ticksBetween_6 rfl ?_
  refine am_if_eq F (tgt := 19) dX10_ticksBetween_9 (by decide) (fun c22 => ?_) (fun c22 => ?_)
  · have h := (if_pos c22).symm.trans h
    refine am_aload_n F 0 dX10_ticksBetween_19 rfl rfl ?_
    refine am_iconst F (v := (1 : Int32)) dX10_ticksBetween_20 (by decide) ?_
    obtain ⟨v6, M5, h4, h⟩ := am_bE h
    refine am_callVi F [.int (1 : Int32)] lyk_174 (by decide) rfl cw_X10_164 (c_X10_fails l D E z (1 : Int32) M2 v6 M5 h4) yn_X10_fails rfl ⟨Nat.le_of_ble_eq_true rfl, Nat.le_of_ble_eq_true rfl⟩ rfl rfl (Nat.le_of_ble_eq_true rfl) ⟨Nat.zero_le _, Nat.zero_le _⟩ dX10_ticksBetween_21 rfl ?_
    exact am_iret F hr h dX10_ticksBetween_24
  · have h := (if_neg c22).symm.trans h
    refine am_iload_n F 2 dX10_ticksBetween_12 rfl rfl ?_
    obtain ⟨v9, M8, h7, h⟩ := am_bE h
    refine am_callSi F [.int a2] cw_X10_161 rfl (c_X10_isCell l D E z a2 M2 v9 M8 h7) yn_X10_isCell rfl ⟨Nat.le_of_ble_eq_true rfl, Nat.le_of_ble_eq_true rfl⟩ rfl rfl (Nat.le_of_ble_eq_true rfl) ⟨Nat.zero_le _, Nat.zero_le _⟩ dX10_ticksBetween_13 rfl ?_
    refine am_if_ne F (tgt := 25) dX10_ticksBetween_16 (by decide) (fun c21 => ?_) (fun c21 => ?_)
    · have h := (if_neg c21).symm.trans h
      refine am_aload_n F 0 dX10_ticksBetween_25 rfl rfl ?_
      refine am_iload_n F 1 dX10_ticksBetween_26 rfl rfl ?_
      obtain ⟨_, M11, h10, h⟩ := am_bE h
      refine am_callVv F [.int a1] lyk_174 (by decide) rfl cw_X10_188 (c_X10_measures l D E z a1 M8 M11 h10) yn_X10_measures rfl ⟨Nat.le_of_ble_eq_true rfl, Nat.le_of_ble_eq_true rfl⟩ rfl rfl (Nat.le_of_ble_eq_true rfl) ⟨Nat.zero_le _, Nat.zero_le _⟩ dX10_ticksBetween_27 rfl ?_
      refine am_aload_n F 0 dX10_ticksBetween_30 rfl rfl ?_
      refine gf_X10_48 F lyk_174 dX10_ticksBetween_31 ?_
      refine am_iload_n F 2 dX10_ticksBetween_34 rfl rfl ?_
      obtain ⟨q12, h⟩ := am_ciE h
      refine am_iald F lyk_185 q12 dX10_ticksBetween_35 ?_
      refine am_ldc F (v := (1000000 : Int32)) dX10_ticksBetween_36 wd_1480 ?_
      refine am_icmp_ge F (tgt := 50) dX10_ticksBetween_38 (by decide) (fun c17 => ?_) (fun c17 => ?_)
      · have h := (if_pos c17).symm.trans h
        refine am_aload_n F 0 dX10_ticksBetween_50 rfl rfl ?_
        refine am_iconst F (v := (2 : Int32)) dX10_ticksBetween_51 (by decide) ?_
        obtain ⟨v15, M14, h13, h⟩ := am_bE h
        refine am_callVi F [.int (2 : Int32)] lyk_174 (by decide) rfl cw_X10_164 (c_X10_fails l D E z (2 : Int32) M11 v15 M14 h13) yn_X10_fails rfl ⟨Nat.le_of_ble_eq_true rfl, Nat.le_of_ble_eq_true rfl⟩ rfl rfl (Nat.le_of_ble_eq_true rfl) ⟨Nat.zero_le _, Nat.zero_le _⟩ dX10_ticksBetween_52 rfl ?_
        exact am_iret F hr h dX10_ticksBetween_55
      · have h := (if_neg c17).symm.trans h
        refine am_aload_n F 0 dX10_ticksBetween_41 rfl rfl ?_
        refine gf_X10_48 F lyk_174 dX10_ticksBetween_42 ?_
        refine am_iload_n F 2 dX10_ticksBetween_45 rfl rfl ?_
        obtain ⟨q16, h⟩ := am_ciE h
        refine am_iald F lyk_185 q16 dX10_ticksBetween_46 ?_
        refine am_goto F (tgt := 55) dX10_ticksBetween_47 (by decide) ?_
        exact am_iret F hr h dX10_ticksBetween_55
    · have h := (if_pos c21).symm.trans h
      refine am_aload_n F 0 dX10_ticksBetween_19 rfl rfl ?_
      refine am_iconst F (v := (1 : Int32)) dX10_ticksBetween_20 (by decide) ?_
      obtain ⟨v20, M19, h18, h⟩ := am_bE h
      refine am_callVi F [.int (1 : Int32)] lyk_174 (by decide) rfl cw_X10_164 (c_X10_fails l D E z (1 : Int32) M8 v20 M19 h18) yn_X10_fails rfl ⟨Nat.le_of_ble_eq_true rfl, Nat.le_of_ble_eq_true rfl⟩ rfl rfl (Nat.le_of_ble_eq_true rfl) ⟨Nat.zero_le _, Nat.zero_le _⟩ dX10_ticksBetween_21 rfl ?_
      exact am_iret F hr h dX10_ticksBetween_24
/-! AisleSchedulerModel.routeRefusal(II)I -/
abbrev rm_X10_routeRefusal : Room := { frames := 8, cells := 0, slots := 0, locals := 195 }
theorem yn_X10_routeRefusal : am_yn yX10_routeRefusal 2 := ⟨⟨by decide +kernel, by decide +kernel⟩, by decide +kernel⟩
def g_X10_routeRefusal (a1 : Int32) (a2 : Int32) (M : am_M) : Option (Int32 × am_M) := (am_b (g_X10_isRobot a1 M) (fun v3 M2 => (if v3 = (0 : Int32) then (some ((am_g (am_s M2 174 0 (1 : Int32)) 174 0), (am_s M2 174 0 (1 : Int32)))) else (am_b (g_X10_isCell a2 M2) (fun v6 M5 => (if v6 = (0 : Int32) then (some ((am_g (am_s M5 174 0 (1 : Int32)) 174 0), (am_s M5 174 0 (1 : Int32)))) else (am_b (g_X10_isInLift a1 M5) (fun v9 M8 => (if v9 = (0 : Int32) then (am_b (g_X10_hasRoute a1 a2 M8) (fun v12 M11 => (if v12 = (0 : Int32) then (some ((am_g (am_s M11 174 0 (3 : Int32)) 174 0), (am_s M11 174 0 (3 : Int32)))) else (some ((am_g (am_s M11 174 0 (0 : Int32)) 174 0), (am_s M11 174 0 (0 : Int32))))))) else (some ((am_g (am_s M8 174 0 (2 : Int32)) 174 0), (am_s M8 174 0 (2 : Int32)))))))))))))
set_option maxHeartbeats 4000000 in
set_option maxRecDepth 100000 in
theorem c_X10_routeRefusal (l : Launch) (D : va_G) (E : Nat → ClassId) (z : Nat) (a1 : Int32) (a2 : Int32) (M : am_M) (r0 : Int32) (M1 : am_M) (h : g_X10_routeRefusal a1 a2 M = some (r0, M1)) : am_Mi l yX10_routeRefusal cX10_routeRefusal 3 (some .int) rm_X10_routeRefusal D E z [.ref (z + 174), .int a1, .int a2] M r0 M1 := by
  unfold g_X10_routeRefusal at h
  refine am_of (own := RX10) (by decide +kernel) rfl (by exact Nat.le_of_ble_eq_true rfl) ?_
  intro p e s m args below meth c F hr
  show am_W p l e rm_X10_routeRefusal s m args below meth c _ 3 D E z 0 0 M 0 [(0, .ref (z + 174)), (1, .int a1), (2, .int a2)] []
  refine am_aload_n F 0 dX10_routeRefusal_0 rfl rfl ?_
  refine am_aload_n F 0 dX10_routeRefusal_1 rfl rfl ?_
  refine am_iload_n F 1 dX10_routeRefusal_2 rfl rfl ?_
  obtain ⟨v3, M2, h1, h⟩ := am_bE h
  refine am_callVi F [.int a1] lyk_174 (by decide) rfl cw_X10_173 (c_X10_isRobot l D E z a1 M v3 M2 h1) yn_X10_isRobot rfl ⟨Nat.le_of_ble_eq_true rfl, Nat.le_of_ble_eq_true rfl⟩ rfl rfl (Nat.le_of_ble_eq_true rfl) ⟨Nat.zero_le _, Nat.zero_le _⟩ dX10_routeRefusal_3 rfl ?_
  refine am_if_eq F (tgt := 16) dX10_routeRefusal_6 (by decide) (fun c16 => ?_) (fun c16 => ?_)
  · have h := (if_pos c16).symm.trans h
    refine am_iconst F (v := (1 : Int32)) dX10_routeRefusal_16 (by decide) ?_
    refine am_goto F (tgt := 46) dX10_routeRefusal_17 (by decide) ?_
    refine pf_X10_51 F lyk_174 dX10_routeRefusal_46 ?_
    refine am_aload_n F 0 dX10_routeRefusal_49 rfl rfl ?_
    refine gf_X10_51 F lyk_174 dX10_routeRefusal_50 ?_
    exact am_iret F hr h dX10_routeRefusal_53
  · have h := (if_neg c16).symm.trans h
    refine am_iload_n F 2 dX10_routeRefusal_9 rfl rfl ?_
    obtain ⟨v6, M5, h4, h⟩ := am_bE h
    refine am_callSi F [.int a2] cw_X10_161 rfl (c_X10_isCell l D E z a2 M2 v6 M5 h4) yn_X10_isCell rfl ⟨Nat.le_of_ble_eq_true rfl, Nat.le_of_ble_eq_true rfl⟩ rfl rfl (Nat.le_of_ble_eq_true rfl) ⟨Nat.zero_le _, Nat.zero_le _⟩ dX10_routeRefusal_10 rfl ?_
    refine am_if_ne F (tgt := 20) dX10_routeRefusal_13 (by decide) (fun c15 => ?_) (fun c15 => ?_)
    · have h := (if_neg c15).symm.trans h
      refine am_aload_n F 0 dX10_routeRefusal_20 rfl rfl ?_
      refine am_iload_n F 1 dX10_routeRefusal_21 rfl rfl ?_
      obtain ⟨v9, M8, h7, h⟩ := am_bE h
      refine am_callVi F [.int a1] lyk_174 (by decide) rfl cw_X10_151 (c_X10_isInLift l D E z a1 M5 v9 M8 h7) yn_X10_isInLift rfl ⟨Nat.le_of_ble_eq_true rfl, Nat.le_of_ble_eq_true rfl⟩ rfl rfl (Nat.le_of_ble_eq_true rfl) ⟨Nat.zero_le _, Nat.zero_le _⟩ dX10_routeRefusal_22 rfl ?_
      refine am_if_eq F (tgt := 32) dX10_routeRefusal_25 (by decide) (fun c14 => ?_) (fun c14 => ?_)
      · have h := (if_pos c14).symm.trans h
        refine am_aload_n F 0 dX10_routeRefusal_32 rfl rfl ?_
        refine am_iload_n F 1 dX10_routeRefusal_33 rfl rfl ?_
        refine am_iload_n F 2 dX10_routeRefusal_34 rfl rfl ?_
        obtain ⟨v12, M11, h10, h⟩ := am_bE h
        refine am_callVi F [.int a1, .int a2] lyk_174 (by decide) rfl cw_X10_154 (c_X10_hasRoute l D E z a1 a2 M8 v12 M11 h10) yn_X10_hasRoute rfl ⟨Nat.le_of_ble_eq_true rfl, Nat.le_of_ble_eq_true rfl⟩ rfl rfl (Nat.le_of_ble_eq_true rfl) ⟨Nat.zero_le _, Nat.zero_le _⟩ dX10_routeRefusal_35 rfl ?_
        refine am_if_eq F (tgt := 45) dX10_routeRefusal_38 (by decide) (fun c13 => ?_) (fun c13 => ?_)
        · have h := (if_pos c13).symm.trans h
          refine am_iconst F (v := (3 : Int32)) dX10_routeRefusal_45 (by decide) ?_
          refine pf_X10_51 F lyk_174 dX10_routeRefusal_46 ?_
          refine am_aload_n F 0 dX10_routeRefusal_49 rfl rfl ?_
          refine gf_X10_51 F lyk_174 dX10_routeRefusal_50 ?_
          exact am_iret F hr h dX10_routeRefusal_53
        · have h := (if_neg c13).symm.trans h
          refine am_iconst F (v := (0 : Int32)) dX10_routeRefusal_41 (by decide) ?_
          refine am_goto F (tgt := 46) dX10_routeRefusal_42 (by decide) ?_
          refine pf_X10_51 F lyk_174 dX10_routeRefusal_46 ?_
          refine am_aload_n F 0 dX10_routeRefusal_49 rfl rfl ?_
          refine gf_X10_51 F lyk_174 dX10_routeRefusal_50 ?_
          exact am_iret F hr h dX10_routeRefusal_53
      · have h := (if_neg c14).symm.trans h
        refine am_iconst F (v := (2 : Int32)) dX10_routeRefusal_28 (by decide) ?_
        refine am_goto F (tgt := 46) dX10_routeRefusal_29 (by decide) ?_
        refine pf_X10_51 F lyk_174 dX10_routeRefusal_46 ?_
        refine am_aload_n F 0 dX10_routeRefusal_49 rfl rfl ?_
        refine gf_X10_51 F lyk_174 dX10_routeRefusal_50 ?_
        exact am_iret F hr h dX10_routeRefusal_53
    · have h := (if_pos c15).symm.trans h
      refine am_iconst F (v := (1 : Int32)) dX10_routeRefusal_16 (by decide) ?_
      refine am_goto F (tgt := 46) dX10_routeRefusal_17 (by decide) ?_
      refine pf_X10_51 F lyk_174 dX10_routeRefusal_46 ?_
      refine am_aload_n F 0 dX10_routeRefusal_49 rfl rfl ?_
      refine gf_X10_51 F lyk_174 dX10_routeRefusal_50 ?_
      exact am_iret F hr h dX10_routeRefusal_53
/-! AisleSchedulerModel.plan(II)I -/
abbrev rm_X10_plan : Room := { frames := 9, cells := 0, slots := 0, locals := 217 }
theorem yn_X10_plan : am_yn yX10_plan 2 := ⟨⟨by decide +kernel, by decide +kernel⟩, by decide +kernel⟩
def g_X10_plan (a1 : Int32) (a2 : Int32) (M : am_M) : Option (Int32 × am_M) := (am_b (g_X10_routeRefusal a1 a2 M) (fun v3 M2 => (if v3 ≤ (0 : Int32) then (am_b (g_X10_of a1 (1 : Int32) M2) (fun v6 M5 => (if (am_g M2 174 17) ≤ v6 then (am_b (g_X10_follows a1 M5) (fun _ M8 => (some ((am_g M8 174 16), M8)))) else (am_b (g_X10_fails (4 : Int32) M5) (fun v11 M10 => (some (v11, M10))))))) else (some ((0 : Int32), M2)))))
set_option maxHeartbeats 4000000 in
set_option maxRecDepth 100000 in
theorem c_X10_plan (l : Launch) (D : va_G) (E : Nat → ClassId) (z : Nat) (a1 : Int32) (a2 : Int32) (M : am_M) (r0 : Int32) (M1 : am_M) (h : g_X10_plan a1 a2 M = some (r0, M1)) : am_Mi l yX10_plan cX10_plan 3 (some .int) rm_X10_plan D E z [.ref (z + 174), .int a1, .int a2] M r0 M1 := by
  unfold g_X10_plan at h
  refine am_of (own := RX10) (by decide +kernel) rfl (by exact Nat.le_of_ble_eq_true rfl) ?_
  intro p e s m args below meth c F hr
  show am_W p l e rm_X10_plan s m args below meth c _ 3 D E z 0 0 M 0 [(0, .ref (z + 174)), (1, .int a1), (2, .int a2)] []
  refine am_aload_n F 0 dX10_plan_0 rfl rfl ?_
  refine am_iload_n F 1 dX10_plan_1 rfl rfl ?_
  refine am_iload_n F 2 dX10_plan_2 rfl rfl ?_
  obtain ⟨v3, M2, h1, h⟩ := am_bE h
  refine am_callVi F [.int a1, .int a2] lyk_174 (by decide) rfl cw_X10_191 (c_X10_routeRefusal l D E z a1 a2 M v3 M2 h1) yn_X10_routeRefusal rfl ⟨Nat.le_of_ble_eq_true rfl, Nat.le_of_ble_eq_true rfl⟩ rfl rfl (Nat.le_of_ble_eq_true rfl) ⟨Nat.zero_le _, Nat.zero_le _⟩ dX10_plan_3 rfl ?_
  refine am_if_le F (tgt := 11) dX10_plan_6 (by decide) (fun c13 => ?_) (fun c13 => ?_)
  · have h := (if_pos c13).symm.trans h
    refine am_aload_n F 0 dX10_plan_11 rfl rfl ?_
    refine gf_X10_119 F lyk_174 dX10_plan_12 ?_
    refine am_aload_n F 0 dX10_plan_15 rfl rfl ?_
    refine am_iload_n F 1 dX10_plan_16 rfl rfl ?_
    refine am_iconst F (v := (1 : Int32)) dX10_plan_17 (by decide) ?_
    obtain ⟨v6, M5, h4, h⟩ := am_bE h
    refine am_callVi F [.int a1, .int (1 : Int32)] lyk_174 (by decide) rfl cw_X10_58 (c_X10_of l D E z a1 (1 : Int32) M2 v6 M5 h4) yn_X10_of rfl ⟨Nat.le_of_ble_eq_true rfl, Nat.le_of_ble_eq_true rfl⟩ rfl rfl (Nat.le_of_ble_eq_true rfl) ⟨Nat.zero_le _, Nat.zero_le _⟩ dX10_plan_18 rfl ?_
    refine am_icmp_le F (tgt := 30) dX10_plan_21 (by decide) (fun c12 => ?_) (fun c12 => ?_)
    · have h := (if_pos c12).symm.trans h
      refine am_aload_n F 0 dX10_plan_30 rfl rfl ?_
      refine am_iload_n F 1 dX10_plan_31 rfl rfl ?_
      obtain ⟨_, M8, h7, h⟩ := am_bE h
      refine am_callVv F [.int a1] lyk_174 (by decide) rfl cw_X10_194 (c_X10_follows l D E z a1 M5 M8 h7) yn_X10_follows rfl ⟨Nat.le_of_ble_eq_true rfl, Nat.le_of_ble_eq_true rfl⟩ rfl rfl (Nat.le_of_ble_eq_true rfl) ⟨Nat.zero_le _, Nat.zero_le _⟩ dX10_plan_32 rfl ?_
      refine am_aload_n F 0 dX10_plan_35 rfl rfl ?_
      refine gf_X10_129 F lyk_174 dX10_plan_36 ?_
      exact am_iret F hr h dX10_plan_39
    · have h := (if_neg c12).symm.trans h
      refine am_aload_n F 0 dX10_plan_24 rfl rfl ?_
      refine am_iconst F (v := (4 : Int32)) dX10_plan_25 (by decide) ?_
      obtain ⟨v11, M10, h9, h⟩ := am_bE h
      refine am_callVi F [.int (4 : Int32)] lyk_174 (by decide) rfl cw_X10_164 (c_X10_fails l D E z (4 : Int32) M5 v11 M10 h9) yn_X10_fails rfl ⟨Nat.le_of_ble_eq_true rfl, Nat.le_of_ble_eq_true rfl⟩ rfl rfl (Nat.le_of_ble_eq_true rfl) ⟨Nat.zero_le _, Nat.zero_le _⟩ dX10_plan_26 rfl ?_
      exact am_iret F hr h dX10_plan_29
  · have h := (if_neg c13).symm.trans h
    refine am_iconst F (v := (0 : Int32)) dX10_plan_9 (by decide) ?_
    exact am_iret F hr h dX10_plan_10
/-! AisleSchedulerModel.arrival(II)I -/
abbrev rm_X10_arrival : Room := { frames := 9, cells := 0, slots := 0, locals := 217 }
theorem yn_X10_arrival : am_yn yX10_arrival 2 := ⟨⟨by decide +kernel, by decide +kernel⟩, by decide +kernel⟩
def g_X10_arrival (a1 : Int32) (a2 : Int32) (M : am_M) : Option (Int32 × am_M) := (am_b (g_X10_routeRefusal a1 a2 M) (fun v3 M2 => (if v3 ≤ (0 : Int32) then (some ((am_g M2 174 16), M2)) else (some ((0 : Int32), M2)))))
set_option maxHeartbeats 4000000 in
set_option maxRecDepth 100000 in
theorem c_X10_arrival (l : Launch) (D : va_G) (E : Nat → ClassId) (z : Nat) (a1 : Int32) (a2 : Int32) (M : am_M) (r0 : Int32) (M1 : am_M) (h : g_X10_arrival a1 a2 M = some (r0, M1)) : am_Mi l yX10_arrival cX10_arrival 3 (some .int) rm_X10_arrival D E z [.ref (z + 174), .int a1, .int a2] M r0 M1 := by
  unfold g_X10_arrival at h
  refine am_of (own := RX10) (by decide +kernel) rfl (by exact Nat.le_of_ble_eq_true rfl) ?_
  intro p e s m args below meth c F hr
  show am_W p l e rm_X10_arrival s m args below meth c _ 3 D E z 0 0 M 0 [(0, .ref (z + 174)), (1, .int a1), (2, .int a2)] []
  refine am_aload_n F 0 dX10_arrival_0 rfl rfl ?_
  refine am_iload_n F 1 dX10_arrival_1 rfl rfl ?_
  refine am_iload_n F 2 dX10_arrival_2 rfl rfl ?_
  obtain ⟨v3, M2, h1, h⟩ := am_bE h
  refine am_callVi F [.int a1, .int a2] lyk_174 (by decide) rfl cw_X10_191 (c_X10_routeRefusal l D E z a1 a2 M v3 M2 h1) yn_X10_routeRefusal rfl ⟨Nat.le_of_ble_eq_true rfl, Nat.le_of_ble_eq_true rfl⟩ rfl rfl (Nat.le_of_ble_eq_true rfl) ⟨Nat.zero_le _, Nat.zero_le _⟩ dX10_arrival_3 rfl ?_
  refine am_if_le F (tgt := 13) dX10_arrival_6 (by decide) (fun c4 => ?_) (fun c4 => ?_)
  · have h := (if_pos c4).symm.trans h
    refine am_aload_n F 0 dX10_arrival_13 rfl rfl ?_
    refine gf_X10_129 F lyk_174 dX10_arrival_14 ?_
    exact am_iret F hr h dX10_arrival_17
  · have h := (if_neg c4).symm.trans h
    refine am_iconst F (v := (0 : Int32)) dX10_arrival_9 (by decide) ?_
    refine am_goto F (tgt := 17) dX10_arrival_10 (by decide) ?_
    exact am_iret F hr h dX10_arrival_17
/-! AisleSchedulerModel.routeCost(II)I -/
abbrev rm_X10_routeCost : Room := { frames := 9, cells := 0, slots := 0, locals := 217 }
theorem yn_X10_routeCost : am_yn yX10_routeCost 2 := ⟨⟨by decide +kernel, by decide +kernel⟩, by decide +kernel⟩
def g_X10_routeCost (a1 : Int32) (a2 : Int32) (M : am_M) : Option (Int32 × am_M) := (am_b (g_X10_routeRefusal a1 a2 M) (fun v3 M2 => (if v3 ≤ (0 : Int32) then (some ((am_g M2 174 17), M2)) else (some ((0 : Int32), M2)))))
set_option maxHeartbeats 4000000 in
set_option maxRecDepth 100000 in
theorem c_X10_routeCost (l : Launch) (D : va_G) (E : Nat → ClassId) (z : Nat) (a1 : Int32) (a2 : Int32) (M : am_M) (r0 : Int32) (M1 : am_M) (h : g_X10_routeCost a1 a2 M = some (r0, M1)) : am_Mi l yX10_routeCost cX10_routeCost 3 (some .int) rm_X10_routeCost D E z [.ref (z + 174), .int a1, .int a2] M r0 M1 := by
  unfold g_X10_routeCost at h
  refine am_of (own := RX10) (by decide +kernel) rfl (by exact Nat.le_of_ble_eq_true rfl) ?_
  intro p e s m args below meth c F hr
  show am_W p l e rm_X10_routeCost s m args below meth c _ 3 D E z 0 0 M 0 [(0, .ref (z + 174)), (1, .int a1), (2, .int a2)] []
  refine am_aload_n F 0 dX10_routeCost_0 rfl rfl ?_
  refine am_iload_n F 1 dX10_routeCost_1 rfl rfl ?_
  refine am_iload_n F 2 dX10_routeCost_2 rfl rfl ?_
  obtain ⟨v3, M2, h1, h⟩ := am_bE h
  refine am_callVi F [.int a1, .int a2] lyk_174 (by decide) rfl cw_X10_191 (c_X10_routeRefusal l D E z a1 a2 M v3 M2 h1) yn_X10_routeRefusal rfl ⟨Nat.le_of_ble_eq_true rfl, Nat.le_of_ble_eq_true rfl⟩ rfl rfl (Nat.le_of_ble_eq_true rfl) ⟨Nat.zero_le _, Nat.zero_le _⟩ dX10_routeCost_3 rfl ?_
  refine am_if_le F (tgt := 13) dX10_routeCost_6 (by decide) (fun c4 => ?_) (fun c4 => ?_)
  · have h := (if_pos c4).symm.trans h
    refine am_aload_n F 0 dX10_routeCost_13 rfl rfl ?_
    refine gf_X10_119 F lyk_174 dX10_routeCost_14 ?_
    exact am_iret F hr h dX10_routeCost_17
  · have h := (if_neg c4).symm.trans h
    refine am_iconst F (v := (0 : Int32)) dX10_routeCost_9 (by decide) ?_
    refine am_goto F (tgt := 17) dX10_routeCost_10 (by decide) ?_
    exact am_iret F hr h dX10_routeCost_17
/-! AisleSchedulerModel.action(II)I -/
abbrev rm_X10_action : Room := { frames := 3, cells := 0, slots := 0, locals := 68 }
theorem yn_X10_action : am_yn yX10_action 2 := ⟨⟨by decide +kernel, by decide +kernel⟩, by decide +kernel⟩
def g_X10_action (a1 : Int32) (a2 : Int32) (M : am_M) : Option (Int32 × am_M) := (am_b (g_X10_isRobot a1 (am_s M 174 0 (0 : Int32))) (fun v3 M2 => (if v3 = (0 : Int32) then (am_b (g_X10_fails (1 : Int32) M2) (fun v19 M18 => (some (v19, M18)))) else (am_b (g_X10_of a1 (2 : Int32) M2) (fun v6 M5 => (am_b (g_X10_in a2 (0 : Int32) (v6 - (1 : Int32)) M5) (fun v9 M8 => (if v9 = (0 : Int32) then (am_b (g_X10_fails (2 : Int32) M8) (fun v12 M11 => (some (v12, M11)))) else (am_b (g_X10_act a1 a2 M8) (fun v15 M14 => (some (v15, M14))))))))))))
set_option maxHeartbeats 4000000 in
set_option maxRecDepth 100000 in
theorem c_X10_action (l : Launch) (D : va_G) (E : Nat → ClassId) (z : Nat) (a1 : Int32) (a2 : Int32) (M : am_M) (r0 : Int32) (M1 : am_M) (h : g_X10_action a1 a2 M = some (r0, M1)) : am_Mi l yX10_action cX10_action 3 (some .int) rm_X10_action D E z [.ref (z + 174), .int a1, .int a2] M r0 M1 := by
  unfold g_X10_action at h
  refine am_of (own := RX10) (by decide +kernel) rfl (by exact Nat.le_of_ble_eq_true rfl) ?_
  intro p e s m args below meth c F hr
  show am_W p l e rm_X10_action s m args below meth c _ 3 D E z 0 0 M 0 [(0, .ref (z + 174)), (1, .int a1), (2, .int a2)] []
  refine am_aload_n F 0 dX10_action_0 rfl rfl ?_
  refine am_iconst F (v := (0 : Int32)) dX10_action_1 (by decide) ?_
  refine pf_X10_51 F lyk_174 dX10_action_2 ?_
  refine am_aload_n F 0 dX10_action_5 rfl rfl ?_
  refine am_iload_n F 1 dX10_action_6 rfl rfl ?_
  obtain ⟨v3, M2, h1, h⟩ := am_bE h
  refine am_callVi F [.int a1] lyk_174 (by decide) rfl cw_X10_173 (c_X10_isRobot l D E z a1 (am_s M 174 0 (0 : Int32)) v3 M2 h1) yn_X10_isRobot rfl ⟨Nat.le_of_ble_eq_true rfl, Nat.le_of_ble_eq_true rfl⟩ rfl rfl (Nat.le_of_ble_eq_true rfl) ⟨Nat.zero_le _, Nat.zero_le _⟩ dX10_action_7 rfl ?_
  refine am_if_ne F (tgt := 19) dX10_action_10 (by decide) (fun c20 => ?_) (fun c20 => ?_)
  · have h := (if_neg c20).symm.trans h
    refine am_iload_n F 2 dX10_action_19 rfl rfl ?_
    refine am_iconst F (v := (0 : Int32)) dX10_action_20 (by decide) ?_
    refine am_aload_n F 0 dX10_action_21 rfl rfl ?_
    refine am_iload_n F 1 dX10_action_22 rfl rfl ?_
    refine am_iconst F (v := (2 : Int32)) dX10_action_23 (by decide) ?_
    obtain ⟨v6, M5, h4, h⟩ := am_bE h
    refine am_callVi F [.int a1, .int (2 : Int32)] lyk_174 (by decide) rfl cw_X10_58 (c_X10_of l D E z a1 (2 : Int32) M2 v6 M5 h4) yn_X10_of rfl ⟨Nat.le_of_ble_eq_true rfl, Nat.le_of_ble_eq_true rfl⟩ rfl rfl (Nat.le_of_ble_eq_true rfl) ⟨Nat.zero_le _, Nat.zero_le _⟩ dX10_action_24 rfl ?_
    refine am_iconst F (v := (1 : Int32)) dX10_action_27 (by decide) ?_
    refine am_isub F dX10_action_28 ?_
    obtain ⟨v9, M8, h7, h⟩ := am_bE h
    refine am_callSi F [.int a2, .int (0 : Int32), .int (v6 - (1 : Int32))] cw_X10_54 rfl (c_X10_in l D E z a2 (0 : Int32) (v6 - (1 : Int32)) M5 v9 M8 h7) yn_X10_in rfl ⟨Nat.le_of_ble_eq_true rfl, Nat.le_of_ble_eq_true rfl⟩ rfl rfl (Nat.le_of_ble_eq_true rfl) ⟨Nat.zero_le _, Nat.zero_le _⟩ dX10_action_29 rfl ?_
    refine am_if_eq F (tgt := 44) dX10_action_32 (by decide) (fun c16 => ?_) (fun c16 => ?_)
    · have h := (if_pos c16).symm.trans h
      refine am_aload_n F 0 dX10_action_44 rfl rfl ?_
      refine am_iconst F (v := (2 : Int32)) dX10_action_45 (by decide) ?_
      obtain ⟨v12, M11, h10, h⟩ := am_bE h
      refine am_callVi F [.int (2 : Int32)] lyk_174 (by decide) rfl cw_X10_164 (c_X10_fails l D E z (2 : Int32) M8 v12 M11 h10) yn_X10_fails rfl ⟨Nat.le_of_ble_eq_true rfl, Nat.le_of_ble_eq_true rfl⟩ rfl rfl (Nat.le_of_ble_eq_true rfl) ⟨Nat.zero_le _, Nat.zero_le _⟩ dX10_action_46 rfl ?_
      exact am_iret F hr h dX10_action_49
    · have h := (if_neg c16).symm.trans h
      refine am_aload_n F 0 dX10_action_35 rfl rfl ?_
      refine am_iload_n F 1 dX10_action_36 rfl rfl ?_
      refine am_iload_n F 2 dX10_action_37 rfl rfl ?_
      obtain ⟨v15, M14, h13, h⟩ := am_bE h
      refine am_callVi F [.int a1, .int a2] lyk_174 (by decide) rfl cw_X10_65 (c_X10_act l D E z a1 a2 M8 v15 M14 h13) yn_X10_act rfl ⟨Nat.le_of_ble_eq_true rfl, Nat.le_of_ble_eq_true rfl⟩ rfl rfl (Nat.le_of_ble_eq_true rfl) ⟨Nat.zero_le _, Nat.zero_le _⟩ dX10_action_38 rfl ?_
      refine am_goto F (tgt := 49) dX10_action_41 (by decide) ?_
      exact am_iret F hr h dX10_action_49
  · have h := (if_pos c20).symm.trans h
    refine am_aload_n F 0 dX10_action_13 rfl rfl ?_
    refine am_iconst F (v := (1 : Int32)) dX10_action_14 (by decide) ?_
    obtain ⟨v19, M18, h17, h⟩ := am_bE h
    refine am_callVi F [.int (1 : Int32)] lyk_174 (by decide) rfl cw_X10_164 (c_X10_fails l D E z (1 : Int32) M2 v19 M18 h17) yn_X10_fails rfl ⟨Nat.le_of_ble_eq_true rfl, Nat.le_of_ble_eq_true rfl⟩ rfl rfl (Nat.le_of_ble_eq_true rfl) ⟨Nat.zero_le _, Nat.zero_le _⟩ dX10_action_15 rfl ?_
    exact am_iret F hr h dX10_action_18
/-! AisleSchedulerModel.cellAfter(II)I -/
abbrev rm_X10_cellAfter : Room := { frames := 4, cells := 0, slots := 0, locals := 96 }
theorem yn_X10_cellAfter : am_yn yX10_cellAfter 2 := ⟨⟨by decide +kernel, by decide +kernel⟩, by decide +kernel⟩
def g_X10_cellAfter (a1 : Int32) (a2 : Int32) (M : am_M) : Option (Int32 × am_M) := (am_b (g_X10_isRobot a1 (am_s M 174 0 (0 : Int32))) (fun v3 M2 => (if v3 = (0 : Int32) then (am_b (g_X10_fails (1 : Int32) M2) (fun v16 M15 => (some (v16, M15)))) else (am_b (g_X10_in a2 (0 : Int32) (30 : Int32) M2) (fun v6 M5 => (if v6 = (0 : Int32) then (am_b (g_X10_fails (2 : Int32) M5) (fun v12 M11 => (some (v12, M11)))) else (am_b (g_X10_foresees a1 M5) (fun _ M8 => (am_ci (((31 : Int32) * a1) + a2) 155 (some ((am_g M8 180 (((31 : Int32) * a1) + a2).toNatClampNeg), M8)))))))))))
set_option maxHeartbeats 4000000 in
set_option maxRecDepth 100000 in
theorem c_X10_cellAfter (l : Launch) (D : va_G) (E : Nat → ClassId) (z : Nat) (a1 : Int32) (a2 : Int32) (M : am_M) (r0 : Int32) (M1 : am_M) (h : g_X10_cellAfter a1 a2 M = some (r0, M1)) : am_Mi l yX10_cellAfter cX10_cellAfter 3 (some .int) rm_X10_cellAfter D E z [.ref (z + 174), .int a1, .int a2] M r0 M1 := by
  unfold g_X10_cellAfter at h
  refine am_of (own := RX10) (by decide +kernel) rfl (by exact Nat.le_of_ble_eq_true rfl) ?_
  intro p e s m args below meth c F hr
  show am_W p l e rm_X10_cellAfter s m args below meth c _ 3 D E z 0 0 M 0 [(0, .ref (z + 174)), (1, .int a1), (2, .int a2)] []
  refine am_aload_n F 0 dX10_cellAfter_0 rfl rfl ?_
  refine am_iconst F (v := (0 : Int32)) dX10_cellAfter_1 (by decide) ?_
  refine pf_X10_51 F lyk_174 dX10_cellAfter_2 ?_
  refine am_aload_n F 0 dX10_cellAfter_5 rfl rfl ?_
  refine am_iload_n F 1 dX10_cellAfter_6 rfl rfl ?_
  obtain ⟨v3, M2, h1, h⟩ := am_bE h
  refine am_callVi F [.int a1] lyk_174 (by decide) rfl cw_X10_173 (c_X10_isRobot l D E z a1 (am_s M 174 0 (0 : Int32)) v3 M2 h1) yn_X10_isRobot rfl ⟨Nat.le_of_ble_eq_true rfl, Nat.le_of_ble_eq_true rfl⟩ rfl rfl (Nat.le_of_ble_eq_true rfl) ⟨Nat.zero_le _, Nat.zero_le _⟩ dX10_cellAfter_7 rfl ?_
  refine am_if_ne F (tgt := 19) dX10_cellAfter_10 (by decide) (fun c17 => ?_) (fun c17 => ?_)
  · have h := (if_neg c17).symm.trans h
    refine am_iload_n F 2 dX10_cellAfter_19 rfl rfl ?_
    refine am_iconst F (v := (0 : Int32)) dX10_cellAfter_20 (by decide) ?_
    refine am_bipush F (v := (30 : Int32)) dX10_cellAfter_21 (by decide) ?_
    obtain ⟨v6, M5, h4, h⟩ := am_bE h
    refine am_callSi F [.int a2, .int (0 : Int32), .int (30 : Int32)] cw_X10_54 rfl (c_X10_in l D E z a2 (0 : Int32) (30 : Int32) M2 v6 M5 h4) yn_X10_in rfl ⟨Nat.le_of_ble_eq_true rfl, Nat.le_of_ble_eq_true rfl⟩ rfl rfl (Nat.le_of_ble_eq_true rfl) ⟨Nat.zero_le _, Nat.zero_le _⟩ dX10_cellAfter_23 rfl ?_
    refine am_if_ne F (tgt := 35) dX10_cellAfter_26 (by decide) (fun c13 => ?_) (fun c13 => ?_)
    · have h := (if_neg c13).symm.trans h
      refine am_aload_n F 0 dX10_cellAfter_35 rfl rfl ?_
      refine am_iload_n F 1 dX10_cellAfter_36 rfl rfl ?_
      obtain ⟨_, M8, h7, h⟩ := am_bE h
      refine am_callVv F [.int a1] lyk_174 (by decide) rfl cw_X10_75 (c_X10_foresees l D E z a1 M5 M8 h7) yn_X10_foresees rfl ⟨Nat.le_of_ble_eq_true rfl, Nat.le_of_ble_eq_true rfl⟩ rfl rfl (Nat.le_of_ble_eq_true rfl) ⟨Nat.zero_le _, Nat.zero_le _⟩ dX10_cellAfter_37 rfl ?_
      refine am_aload_n F 0 dX10_cellAfter_40 rfl rfl ?_
      refine gf_X10_29 F lyk_174 dX10_cellAfter_41 ?_
      refine am_bipush F (v := (31 : Int32)) dX10_cellAfter_44 (by decide) ?_
      refine am_iload_n F 1 dX10_cellAfter_46 rfl rfl ?_
      refine am_imul F dX10_cellAfter_47 ?_
      refine am_iload_n F 2 dX10_cellAfter_48 rfl rfl ?_
      refine am_iadd F dX10_cellAfter_49 ?_
      obtain ⟨q9, h⟩ := am_ciE h
      refine am_iald F lyk_180 q9 dX10_cellAfter_50 ?_
      exact am_iret F hr h dX10_cellAfter_51
    · have h := (if_pos c13).symm.trans h
      refine am_aload_n F 0 dX10_cellAfter_29 rfl rfl ?_
      refine am_iconst F (v := (2 : Int32)) dX10_cellAfter_30 (by decide) ?_
      obtain ⟨v12, M11, h10, h⟩ := am_bE h
      refine am_callVi F [.int (2 : Int32)] lyk_174 (by decide) rfl cw_X10_164 (c_X10_fails l D E z (2 : Int32) M5 v12 M11 h10) yn_X10_fails rfl ⟨Nat.le_of_ble_eq_true rfl, Nat.le_of_ble_eq_true rfl⟩ rfl rfl (Nat.le_of_ble_eq_true rfl) ⟨Nat.zero_le _, Nat.zero_le _⟩ dX10_cellAfter_31 rfl ?_
      exact am_iret F hr h dX10_cellAfter_34
  · have h := (if_pos c17).symm.trans h
    refine am_aload_n F 0 dX10_cellAfter_13 rfl rfl ?_
    refine am_iconst F (v := (1 : Int32)) dX10_cellAfter_14 (by decide) ?_
    obtain ⟨v16, M15, h14, h⟩ := am_bE h
    refine am_callVi F [.int (1 : Int32)] lyk_174 (by decide) rfl cw_X10_164 (c_X10_fails l D E z (1 : Int32) M2 v16 M15 h14) yn_X10_fails rfl ⟨Nat.le_of_ble_eq_true rfl, Nat.le_of_ble_eq_true rfl⟩ rfl rfl (Nat.le_of_ble_eq_true rfl) ⟨Nat.zero_le _, Nat.zero_le _⟩ dX10_cellAfter_15 rfl ?_
    exact am_iret F hr h dX10_cellAfter_18
/-! AisleSchedulerModel.robotAt(II)I -/
abbrev rm_X10_robotAt : Room := { frames := 5, cells := 0, slots := 0, locals := 117 }
theorem yn_X10_robotAt : am_yn yX10_robotAt 2 := ⟨⟨by decide +kernel, by decide +kernel⟩, by decide +kernel⟩
def g_X10_robotAt_L40 (a1 : Int32) (a2 : Int32) : Nat → Int32 → am_M → Option ((Nat × Int32) × am_M)
  | 0, _, _ => none
  | n + 1, a3, M => (am_ci (6 : Int32) 406 (if (am_g M 175 (6 : Int32).toNatClampNeg) ≤ a3 then (some ((74, a3), M)) else (am_ci (((31 : Int32) * a3) + a2) 155 (if (am_g M 180 (((31 : Int32) * a3) + a2).toNatClampNeg) = a1 then (some ((66, a3), M)) else (g_X10_robotAt_L40 a1 a2 n (a3 + (1 : Int32)) M)))))
set_option maxHeartbeats 4000000 in
set_option maxRecDepth 100000 in
theorem cl_X10_robotAt_L40 {l : Launch} {p : Program} {e : Env} {s : State} {m : MethodId} {args : Array Value} {below : List Frame} {meth : Method} {c : Code} {Q : State → Prop} {D : va_G} {E : Nat → ClassId} {z : Nat} (F : am_F p s m args meth c cX10_robotAt 4 RX10 D E z) (a1 : Int32) (a2 : Int32) : ∀ (n : Nat) (a3 : Int32) (M : am_M) (x : Nat × Int32) (M1 : am_M), g_X10_robotAt_L40 a1 a2 n a3 M = some (x, M1) → ((x.1 = 66 → am_W p l e rm_X10_robotAt s m args below meth c Q 4 D E z 0 0 M1 66 [(3, .int x.2)] []) ∧ (x.1 = 74 → am_W p l e rm_X10_robotAt s m args below meth c Q 4 D E z 0 0 M1 74 [] [])) → am_W p l e rm_X10_robotAt s m args below meth c Q 4 D E z 0 0 M 40 [(0, .ref (z + 174)), (1, .int a1), (2, .int a2), (3, .int a3)] [] := by
  intro n
  induction n with
  | zero => intro a3 M x M1 h K; cases h
  | succ n ih =>
    intro a3 M x M1 h K
    rw [g_X10_robotAt_L40] at h
    refine am_iload_n F 3 dX10_robotAt_40 rfl rfl ?_
    refine am_aload_n F 0 dX10_robotAt_41 rfl rfl ?_
    refine gf_X10_7 F lyk_174 dX10_robotAt_42 ?_
    refine am_bipush F (v := (6 : Int32)) dX10_robotAt_45 (by decide) ?_
    obtain ⟨q9, h⟩ := am_ciE h
    refine am_iald F lyk_175 q9 dX10_robotAt_47 ?_
    refine am_icmp_ge F (tgt := 74) dX10_robotAt_48 (by decide) (fun c12 => ?_) (fun c12 => ?_)
    · have h := (if_pos c12).symm.trans h
      cases h
      exact am_sub (lv' := []) [] rfl (K.2 rfl)
    · have h := (if_neg c12).symm.trans h
      refine am_aload_n F 0 dX10_robotAt_51 rfl rfl ?_
      refine gf_X10_29 F lyk_174 dX10_robotAt_52 ?_
      refine am_bipush F (v := (31 : Int32)) dX10_robotAt_55 (by decide) ?_
      refine am_iload_n F 3 dX10_robotAt_57 rfl rfl ?_
      refine am_imul F dX10_robotAt_58 ?_
      refine am_iload_n F 2 dX10_robotAt_59 rfl rfl ?_
      refine am_iadd F dX10_robotAt_60 ?_
      obtain ⟨q10, h⟩ := am_ciE h
      refine am_iald F lyk_180 q10 dX10_robotAt_61 ?_
      refine am_iload_n F 1 dX10_robotAt_62 rfl rfl ?_
      refine am_icmp_ne F (tgt := 68) dX10_robotAt_63 (by decide) (fun c11 => ?_) (fun c11 => ?_)
      · have h := (if_neg c11).symm.trans h
        refine am_iinc F [(3, .int (a3 + (1 : Int32))), (0, .ref (z + 174)), (1, .int a1), (2, .int a2)] 3 dX10_robotAt_68 (by decide) rfl rfl rfl ?_
        refine am_goto F (tgt := 40) dX10_robotAt_71 (by decide) ?_
        exact am_sub (lv' := [(0, .ref (z + 174)), (1, .int a1), (2, .int a2), (3, .int (a3 + (1 : Int32)))]) [1, 2, 3, 0] rfl (ih (a3 + (1 : Int32)) M _ _ h K)
      · have h := (if_pos c11).symm.trans h
        cases h
        exact am_sub (lv' := [(3, .int a3)]) [3] rfl (K.1 rfl)
def g_X10_robotAt (a1 : Int32) (a2 : Int32) (M : am_M) : Option (Int32 × am_M) := (am_b (g_X10_isCell a1 (am_s M 174 0 (0 : Int32))) (fun v3 M2 => (if v3 = (0 : Int32) then (am_b (g_X10_fails (1 : Int32) M2) (fun v23 M22 => (some (v23, M22)))) else (am_b (g_X10_in a2 (0 : Int32) (30 : Int32) M2) (fun v6 M5 => (if v6 = (0 : Int32) then (am_b (g_X10_fails (2 : Int32) M5) (fun v19 M18 => (some (v19, M18)))) else (am_b (g_X10_allForeseen  M5) (fun _ M8 => (am_b (g_X10_robotAt_L40 a1 a2 am_fu (0 : Int32) M8) (fun x13 M14 => (if x13.1 = 66 then (some (x13.2, M14)) else (some ((-1 : Int32), M14)))))))))))))
set_option maxHeartbeats 4000000 in
set_option maxRecDepth 100000 in
theorem c_X10_robotAt (l : Launch) (D : va_G) (E : Nat → ClassId) (z : Nat) (a1 : Int32) (a2 : Int32) (M : am_M) (r0 : Int32) (M1 : am_M) (h : g_X10_robotAt a1 a2 M = some (r0, M1)) : am_Mi l yX10_robotAt cX10_robotAt 4 (some .int) rm_X10_robotAt D E z [.ref (z + 174), .int a1, .int a2] M r0 M1 := by
  unfold g_X10_robotAt at h
  refine am_of (own := RX10) (by decide +kernel) rfl (by exact Nat.le_of_ble_eq_true rfl) ?_
  intro p e s m args below meth c F hr
  show am_W p l e rm_X10_robotAt s m args below meth c _ 4 D E z 0 0 M 0 [(0, .ref (z + 174)), (1, .int a1), (2, .int a2)] []
  refine am_aload_n F 0 dX10_robotAt_0 rfl rfl ?_
  refine am_iconst F (v := (0 : Int32)) dX10_robotAt_1 (by decide) ?_
  refine pf_X10_51 F lyk_174 dX10_robotAt_2 ?_
  refine am_iload_n F 1 dX10_robotAt_5 rfl rfl ?_
  obtain ⟨v3, M2, h1, h⟩ := am_bE h
  refine am_callSi F [.int a1] cw_X10_161 rfl (c_X10_isCell l D E z a1 (am_s M 174 0 (0 : Int32)) v3 M2 h1) yn_X10_isCell rfl ⟨Nat.le_of_ble_eq_true rfl, Nat.le_of_ble_eq_true rfl⟩ rfl rfl (Nat.le_of_ble_eq_true rfl) ⟨Nat.zero_le _, Nat.zero_le _⟩ dX10_robotAt_6 rfl ?_
  refine am_if_ne F (tgt := 18) dX10_robotAt_9 (by decide) (fun c24 => ?_) (fun c24 => ?_)
  · have h := (if_neg c24).symm.trans h
    refine am_iload_n F 2 dX10_robotAt_18 rfl rfl ?_
    refine am_iconst F (v := (0 : Int32)) dX10_robotAt_19 (by decide) ?_
    refine am_bipush F (v := (30 : Int32)) dX10_robotAt_20 (by decide) ?_
    obtain ⟨v6, M5, h4, h⟩ := am_bE h
    refine am_callSi F [.int a2, .int (0 : Int32), .int (30 : Int32)] cw_X10_54 rfl (c_X10_in l D E z a2 (0 : Int32) (30 : Int32) M2 v6 M5 h4) yn_X10_in rfl ⟨Nat.le_of_ble_eq_true rfl, Nat.le_of_ble_eq_true rfl⟩ rfl rfl (Nat.le_of_ble_eq_true rfl) ⟨Nat.zero_le _, Nat.zero_le _⟩ dX10_robotAt_22 rfl ?_
    refine am_if_ne F (tgt := 34) dX10_robotAt_25 (by decide) (fun c20 => ?_) (fun c20 => ?_)
    · have h := (if_neg c20).symm.trans h
      refine am_aload_n F 0 dX10_robotAt_34 rfl rfl ?_
      obtain ⟨_, M8, h7, h⟩ := am_bE h
      refine am_callVv F [] lyk_174 (by decide) rfl cw_X10_132 (c_X10_allForeseen l D E z  M5 M8 h7) yn_X10_allForeseen rfl ⟨Nat.le_of_ble_eq_true rfl, Nat.le_of_ble_eq_true rfl⟩ rfl rfl (Nat.le_of_ble_eq_true rfl) ⟨Nat.zero_le _, Nat.zero_le _⟩ dX10_robotAt_35 rfl ?_
      refine am_iconst F (v := (0 : Int32)) dX10_robotAt_38 (by decide) ?_
      refine am_istore_n F [(3, .int (0 : Int32)), (0, .ref (z + 174)), (1, .int a1), (2, .int a2)] dX10_robotAt_39 rfl (by decide) rfl ?_
      obtain ⟨x13, M14, h15, h⟩ := am_bE h
      refine am_sub (lv' := [(0, .ref (z + 174)), (1, .int a1), (2, .int a2), (3, .int (0 : Int32))]) [1, 2, 3, 0] rfl (cl_X10_robotAt_L40 F a1 a2 am_fu (0 : Int32) M8 x13 M14 h15 ⟨fun c16 => ?_, fun c16 => ?_⟩)
      · have h := (if_pos c16).symm.trans h
        refine am_iload_n F 0 dX10_robotAt_66 rfl rfl ?_
        exact am_iret F hr h dX10_robotAt_67
      · have h := (if_neg (by rw [c16]; decide)).symm.trans h
        refine am_iconst F (v := (-1 : Int32)) dX10_robotAt_74 (by decide) ?_
        exact am_iret F hr h dX10_robotAt_75
    · have h := (if_pos c20).symm.trans h
      refine am_aload_n F 0 dX10_robotAt_28 rfl rfl ?_
      refine am_iconst F (v := (2 : Int32)) dX10_robotAt_29 (by decide) ?_
      obtain ⟨v19, M18, h17, h⟩ := am_bE h
      refine am_callVi F [.int (2 : Int32)] lyk_174 (by decide) rfl cw_X10_164 (c_X10_fails l D E z (2 : Int32) M5 v19 M18 h17) yn_X10_fails rfl ⟨Nat.le_of_ble_eq_true rfl, Nat.le_of_ble_eq_true rfl⟩ rfl rfl (Nat.le_of_ble_eq_true rfl) ⟨Nat.zero_le _, Nat.zero_le _⟩ dX10_robotAt_30 rfl ?_
      exact am_iret F hr h dX10_robotAt_33
  · have h := (if_pos c24).symm.trans h
    refine am_aload_n F 0 dX10_robotAt_12 rfl rfl ?_
    refine am_iconst F (v := (1 : Int32)) dX10_robotAt_13 (by decide) ?_
    obtain ⟨v23, M22, h21, h⟩ := am_bE h
    refine am_callVi F [.int (1 : Int32)] lyk_174 (by decide) rfl cw_X10_164 (c_X10_fails l D E z (1 : Int32) M2 v23 M22 h21) yn_X10_fails rfl ⟨Nat.le_of_ble_eq_true rfl, Nat.le_of_ble_eq_true rfl⟩ rfl rfl (Nat.le_of_ble_eq_true rfl) ⟨Nat.zero_le _, Nat.zero_le _⟩ dX10_robotAt_14 rfl ?_
    exact am_iret F hr h dX10_robotAt_17
/-! AisleSchedulerModel.cancel(I)I -/
abbrev rm_X10_cancel : Room := { frames := 5, cells := 0, slots := 0, locals := 117 }
theorem yn_X10_cancel : am_yn yX10_cancel 1 := ⟨⟨by decide +kernel, by decide +kernel⟩, by decide +kernel⟩
def g_X10_cancel (a1 : Int32) (M : am_M) : Option (Int32 × am_M) := (am_b (g_X10_isRobot a1 (am_s M 174 0 (0 : Int32))) (fun v3 M2 => (if v3 = (0 : Int32) then (am_b (g_X10_fails (1 : Int32) M2) (fun v32 M31 => (some (v32, M31)))) else (am_b (g_X10_isInLift a1 M2) (fun v6 M5 => (if v6 = (0 : Int32) then (am_b (g_X10_allForeseen  M5) (fun _ M8 => (am_b (g_X10_of a1 (0 : Int32) M8) (fun v11 M10 => (am_b (g_X10_canWait a1 v11 (0 : Int32) (30 : Int32) M10) (fun v14 M13 => (if v14 = (0 : Int32) then (am_b (g_X10_fails (3 : Int32) M13) (fun v24 M23 => (some (v24, M23)))) else (am_b (g_X10_ticksLeft a1 M13) (fun v17 M16 => (am_b (g_X10_begins  M16) (fun _ M19 => (am_b (g_X10_follows a1 M19) (fun _ M21 => (some (v17, M21))))))))))))))) else (am_b (g_X10_fails (2 : Int32) M5) (fun v28 M27 => (some (v28, M27))))))))))
set_option maxHeartbeats 4000000 in
set_option maxRecDepth 100000 in
theorem c_X10_cancel (l : Launch) (D : va_G) (E : Nat → ClassId) (z : Nat) (a1 : Int32) (M : am_M) (r0 : Int32) (M1 : am_M) (h : g_X10_cancel a1 M = some (r0, M1)) : am_Mi l yX10_cancel cX10_cancel 3 (some .int) rm_X10_cancel D E z [.ref (z + 174), .int a1] M r0 M1 := by
  unfold g_X10_cancel at h
  refine am_of (own := RX10) (by decide +kernel) rfl (by exact Nat.le_of_ble_eq_true rfl) ?_
  intro p e s m args below meth c F hr
  show am_W p l e rm_X10_cancel s m args below meth c _ 3 D E z 0 0 M 0 [(0, .ref (z + 174)), (1, .int a1)] []
  refine am_aload_n F 0 dX10_cancel_0 rfl rfl ?_
  refine am_iconst F (v := (0 : Int32)) dX10_cancel_1 (by decide) ?_
  refine pf_X10_51 F lyk_174 dX10_cancel_2 ?_
  refine am_aload_n F 0 dX10_cancel_5 rfl rfl ?_
  refine am_iload_n F 1 dX10_cancel_6 rfl rfl ?_
  obtain ⟨v3, M2, h1, h⟩ := am_bE h
  refine am_callVi F [.int a1] lyk_174 (by decide) rfl cw_X10_173 (c_X10_isRobot l D E z a1 (am_s M 174 0 (0 : Int32)) v3 M2 h1) yn_X10_isRobot rfl ⟨Nat.le_of_ble_eq_true rfl, Nat.le_of_ble_eq_true rfl⟩ rfl rfl (Nat.le_of_ble_eq_true rfl) ⟨Nat.zero_le _, Nat.zero_le _⟩ dX10_cancel_7 rfl ?_
  refine am_if_ne F (tgt := 19) dX10_cancel_10 (by decide) (fun c33 => ?_) (fun c33 => ?_)
  · have h := (if_neg c33).symm.trans h
    refine am_aload_n F 0 dX10_cancel_19 rfl rfl ?_
    refine am_iload_n F 1 dX10_cancel_20 rfl rfl ?_
    obtain ⟨v6, M5, h4, h⟩ := am_bE h
    refine am_callVi F [.int a1] lyk_174 (by decide) rfl cw_X10_151 (c_X10_isInLift l D E z a1 M2 v6 M5 h4) yn_X10_isInLift rfl ⟨Nat.le_of_ble_eq_true rfl, Nat.le_of_ble_eq_true rfl⟩ rfl rfl (Nat.le_of_ble_eq_true rfl) ⟨Nat.zero_le _, Nat.zero_le _⟩ dX10_cancel_21 rfl ?_
    refine am_if_eq F (tgt := 33) dX10_cancel_24 (by decide) (fun c29 => ?_) (fun c29 => ?_)
    · have h := (if_pos c29).symm.trans h
      refine am_aload_n F 0 dX10_cancel_33 rfl rfl ?_
      obtain ⟨_, M8, h7, h⟩ := am_bE h
      refine am_callVv F [] lyk_174 (by decide) rfl cw_X10_132 (c_X10_allForeseen l D E z  M5 M8 h7) yn_X10_allForeseen rfl ⟨Nat.le_of_ble_eq_true rfl, Nat.le_of_ble_eq_true rfl⟩ rfl rfl (Nat.le_of_ble_eq_true rfl) ⟨Nat.zero_le _, Nat.zero_le _⟩ dX10_cancel_34 rfl ?_
      refine am_aload_n F 0 dX10_cancel_37 rfl rfl ?_
      refine am_iload_n F 1 dX10_cancel_38 rfl rfl ?_
      refine am_aload_n F 0 dX10_cancel_39 rfl rfl ?_
      refine am_iload_n F 1 dX10_cancel_40 rfl rfl ?_
      refine am_iconst F (v := (0 : Int32)) dX10_cancel_41 (by decide) ?_
      obtain ⟨v11, M10, h9, h⟩ := am_bE h
      refine am_callVi F [.int a1, .int (0 : Int32)] lyk_174 (by decide) rfl cw_X10_58 (c_X10_of l D E z a1 (0 : Int32) M8 v11 M10 h9) yn_X10_of rfl ⟨Nat.le_of_ble_eq_true rfl, Nat.le_of_ble_eq_true rfl⟩ rfl rfl (Nat.le_of_ble_eq_true rfl) ⟨Nat.zero_le _, Nat.zero_le _⟩ dX10_cancel_42 rfl ?_
      refine am_iconst F (v := (0 : Int32)) dX10_cancel_45 (by decide) ?_
      refine am_bipush F (v := (30 : Int32)) dX10_cancel_46 (by decide) ?_
      obtain ⟨v14, M13, h12, h⟩ := am_bE h
      refine am_callVi F [.int a1, .int v11, .int (0 : Int32), .int (30 : Int32)] lyk_174 (by decide) rfl cw_X10_112 (c_X10_canWait l D E z a1 v11 (0 : Int32) (30 : Int32) M10 v14 M13 h12) yn_X10_canWait rfl ⟨Nat.le_of_ble_eq_true rfl, Nat.le_of_ble_eq_true rfl⟩ rfl rfl (Nat.le_of_ble_eq_true rfl) ⟨Nat.zero_le _, Nat.zero_le _⟩ dX10_cancel_48 rfl ?_
      refine am_if_ne F (tgt := 60) dX10_cancel_51 (by decide) (fun c25 => ?_) (fun c25 => ?_)
      · have h := (if_neg c25).symm.trans h
        refine am_aload_n F 0 dX10_cancel_60 rfl rfl ?_
        refine am_iload_n F 1 dX10_cancel_61 rfl rfl ?_
        obtain ⟨v17, M16, h15, h⟩ := am_bE h
        refine am_callVi F [.int a1] lyk_174 (by decide) rfl cw_X10_176 (c_X10_ticksLeft l D E z a1 M13 v17 M16 h15) yn_X10_ticksLeft rfl ⟨Nat.le_of_ble_eq_true rfl, Nat.le_of_ble_eq_true rfl⟩ rfl rfl (Nat.le_of_ble_eq_true rfl) ⟨Nat.zero_le _, Nat.zero_le _⟩ dX10_cancel_62 rfl ?_
        refine am_istore_n F [(2, .int v17), (0, .ref (z + 174)), (1, .int a1)] dX10_cancel_65 rfl (by decide) rfl ?_
        refine am_aload_n F 1 dX10_cancel_66 rfl rfl ?_
        obtain ⟨_, M19, h18, h⟩ := am_bE h
        refine am_callVv F [] lyk_174 (by decide) rfl cw_X10_135 (c_X10_begins l D E z  M16 M19 h18) yn_X10_begins rfl ⟨Nat.le_of_ble_eq_true rfl, Nat.le_of_ble_eq_true rfl⟩ rfl rfl (Nat.le_of_ble_eq_true rfl) ⟨Nat.zero_le _, Nat.zero_le _⟩ dX10_cancel_67 rfl ?_
        refine am_aload_n F 1 dX10_cancel_70 rfl rfl ?_
        refine am_iload_n F 2 dX10_cancel_71 rfl rfl ?_
        obtain ⟨_, M21, h20, h⟩ := am_bE h
        refine am_callVv F [.int a1] lyk_174 (by decide) rfl cw_X10_194 (c_X10_follows l D E z a1 M19 M21 h20) yn_X10_follows rfl ⟨Nat.le_of_ble_eq_true rfl, Nat.le_of_ble_eq_true rfl⟩ rfl rfl (Nat.le_of_ble_eq_true rfl) ⟨Nat.zero_le _, Nat.zero_le _⟩ dX10_cancel_72 rfl ?_
        refine am_iload_n F 0 dX10_cancel_75 rfl rfl ?_
        exact am_iret F hr h dX10_cancel_76
      · have h := (if_pos c25).symm.trans h
        refine am_aload_n F 0 dX10_cancel_54 rfl rfl ?_
        refine am_iconst F (v := (3 : Int32)) dX10_cancel_55 (by decide) ?_
        obtain ⟨v24, M23, h22, h⟩ := am_bE h
        refine am_callVi F [.int (3 : Int32)] lyk_174 (by decide) rfl cw_X10_164 (c_X10_fails l D E z (3 : Int32) M13 v24 M23 h22) yn_X10_fails rfl ⟨Nat.le_of_ble_eq_true rfl, Nat.le_of_ble_eq_true rfl⟩ rfl rfl (Nat.le_of_ble_eq_true rfl) ⟨Nat.zero_le _, Nat.zero_le _⟩ dX10_cancel_56 rfl ?_
        exact am_iret F hr h dX10_cancel_59
    · have h := (if_neg c29).symm.trans h
      refine am_aload_n F 0 dX10_cancel_27 rfl rfl ?_
      refine am_iconst F (v := (2 : Int32)) dX10_cancel_28 (by decide) ?_
      obtain ⟨v28, M27, h26, h⟩ := am_bE h
      refine am_callVi F [.int (2 : Int32)] lyk_174 (by decide) rfl cw_X10_164 (c_X10_fails l D E z (2 : Int32) M5 v28 M27 h26) yn_X10_fails rfl ⟨Nat.le_of_ble_eq_true rfl, Nat.le_of_ble_eq_true rfl⟩ rfl rfl (Nat.le_of_ble_eq_true rfl) ⟨Nat.zero_le _, Nat.zero_le _⟩ dX10_cancel_29 rfl ?_
      exact am_iret F hr h dX10_cancel_32
  · have h := (if_pos c33).symm.trans h
    refine am_aload_n F 0 dX10_cancel_13 rfl rfl ?_
    refine am_iconst F (v := (1 : Int32)) dX10_cancel_14 (by decide) ?_
    obtain ⟨v32, M31, h30, h⟩ := am_bE h
    refine am_callVi F [.int (1 : Int32)] lyk_174 (by decide) rfl cw_X10_164 (c_X10_fails l D E z (1 : Int32) M2 v32 M31 h30) yn_X10_fails rfl ⟨Nat.le_of_ble_eq_true rfl, Nat.le_of_ble_eq_true rfl⟩ rfl rfl (Nat.le_of_ble_eq_true rfl) ⟨Nat.zero_le _, Nat.zero_le _⟩ dX10_cancel_15 rfl ?_
    exact am_iret F hr h dX10_cancel_18
/-! AisleSchedulerModel.blockers(II)I -/
abbrev rm_X10_blockers : Room := { frames := 8, cells := 0, slots := 0, locals := 195 }
theorem yn_X10_blockers : am_yn yX10_blockers 2 := ⟨⟨by decide +kernel, by decide +kernel⟩, by decide +kernel⟩
def g_X10_blockers_L50 (a1 : Int32) (a2 : Int32) : Nat → Int32 → Int32 → am_M → Option ((Int32) × am_M)
  | 0, _, _, _ => none
  | n + 1, a3, a4, M => (am_ci (6 : Int32) 406 (if (am_g M 175 (6 : Int32).toNatClampNeg) ≤ a4 then (some (a3, M)) else (if a4 = a1 then (g_X10_blockers_L50 a1 a2 n a3 (a4 + (1 : Int32)) M) else (am_b (g_X10_hasRoute a1 a2 (am_s M 174 11 a4)) (fun v19 M18 => (if v19 = (0 : Int32) then (g_X10_blockers_L50 a1 a2 n (a3 ||| (0 : Int32)) (a4 + (1 : Int32)) M18) else (g_X10_blockers_L50 a1 a2 n (a3 ||| ((1 : Int32) <<< (a4 &&& 31))) (a4 + (1 : Int32)) M18)))))))
set_option maxHeartbeats 4000000 in
set_option maxRecDepth 100000 in
theorem cl_X10_blockers_L50 {l : Launch} {p : Program} {e : Env} {s : State} {m : MethodId} {args : Array Value} {below : List Frame} {meth : Method} {c : Code} {Q : State → Prop} {D : va_G} {E : Nat → ClassId} {z : Nat} (F : am_F p s m args meth c cX10_blockers 5 RX10 D E z) (a1 : Int32) (a2 : Int32) : ∀ (n : Nat) (a3 : Int32) (a4 : Int32) (M : am_M) (x : Int32) (M1 : am_M), g_X10_blockers_L50 a1 a2 n a3 a4 M = some (x, M1) → (am_W p l e rm_X10_blockers s m args below meth c Q 5 D E z 0 0 M1 100 [(0, .ref (z + 174)), (3, .int x)] []) → am_W p l e rm_X10_blockers s m args below meth c Q 5 D E z 0 0 M 50 [(0, .ref (z + 174)), (1, .int a1), (2, .int a2), (3, .int a3), (4, .int a4)] [] := by
  intro n
  induction n with
  | zero => intro a3 a4 M x M1 h K; cases h
  | succ n ih =>
    intro a3 a4 M x M1 h K
    rw [g_X10_blockers_L50] at h
    refine am_iload F 4 dX10_blockers_50 rfl ?_
    refine am_aload_n F 0 dX10_blockers_52 rfl rfl ?_
    refine gf_X10_7 F lyk_174 dX10_blockers_53 ?_
    refine am_bipush F (v := (6 : Int32)) dX10_blockers_56 (by decide) ?_
    obtain ⟨q16, h⟩ := am_ciE h
    refine am_iald F lyk_175 q16 dX10_blockers_58 ?_
    refine am_icmp_ge F (tgt := 100) dX10_blockers_59 (by decide) (fun c22 => ?_) (fun c22 => ?_)
    · have h := (if_pos c22).symm.trans h
      cases h
      exact am_sub (lv' := [(0, .ref (z + 174)), (3, .int a3)]) [0, 3] rfl (K)
    · have h := (if_neg c22).symm.trans h
      refine am_iload F 4 dX10_blockers_62 rfl ?_
      refine am_iload_n F 1 dX10_blockers_64 rfl rfl ?_
      refine am_icmp_eq F (tgt := 94) dX10_blockers_65 (by decide) (fun c21 => ?_) (fun c21 => ?_)
      · have h := (if_pos c21).symm.trans h
        refine am_iinc F [(4, .int (a4 + (1 : Int32))), (0, .ref (z + 174)), (1, .int a1), (2, .int a2), (3, .int a3)] 4 dX10_blockers_94 (by decide) rfl rfl rfl ?_
        refine am_goto F (tgt := 50) dX10_blockers_97 (by decide) ?_
        exact am_sub (lv' := [(0, .ref (z + 174)), (1, .int a1), (2, .int a2), (3, .int a3), (4, .int (a4 + (1 : Int32)))]) [1, 2, 3, 4, 0] rfl (ih a3 (a4 + (1 : Int32)) M _ _ h K)
      · have h := (if_neg c21).symm.trans h
        refine am_aload_n F 0 dX10_blockers_68 rfl rfl ?_
        refine am_iload F 4 dX10_blockers_69 rfl ?_
        refine pf_X10_35 F lyk_174 dX10_blockers_71 ?_
        refine am_iload_n F 3 dX10_blockers_74 rfl rfl ?_
        refine am_aload_n F 0 dX10_blockers_75 rfl rfl ?_
        refine am_iload_n F 1 dX10_blockers_76 rfl rfl ?_
        refine am_iload_n F 2 dX10_blockers_77 rfl rfl ?_
        obtain ⟨v19, M18, h17, h⟩ := am_bE h
        refine am_callVi F [.int a1, .int a2] lyk_174 (by decide) rfl cw_X10_154 (c_X10_hasRoute l D E z a1 a2 (am_s M 174 11 a4) v19 M18 h17) yn_X10_hasRoute rfl ⟨Nat.le_of_ble_eq_true rfl, Nat.le_of_ble_eq_true rfl⟩ rfl rfl (Nat.le_of_ble_eq_true rfl) ⟨Nat.zero_le _, Nat.zero_le _⟩ dX10_blockers_78 rfl ?_
        refine am_if_eq F (tgt := 91) dX10_blockers_81 (by decide) (fun c20 => ?_) (fun c20 => ?_)
        · have h := (if_pos c20).symm.trans h
          refine am_iconst F (v := (0 : Int32)) dX10_blockers_91 (by decide) ?_
          refine am_ior F dX10_blockers_92 ?_
          refine am_istore_n F [(3, .int (a3 ||| (0 : Int32))), (0, .ref (z + 174)), (1, .int a1), (2, .int a2), (4, .int a4)] dX10_blockers_93 rfl (by decide) rfl ?_
          refine am_iinc F [(4, .int (a4 + (1 : Int32))), (3, .int (a3 ||| (0 : Int32))), (0, .ref (z + 174)), (1, .int a1), (2, .int a2)] 4 dX10_blockers_94 (by decide) rfl rfl rfl ?_
          refine am_goto F (tgt := 50) dX10_blockers_97 (by decide) ?_
          exact am_sub (lv' := [(0, .ref (z + 174)), (1, .int a1), (2, .int a2), (3, .int (a3 ||| (0 : Int32))), (4, .int (a4 + (1 : Int32)))]) [2, 3, 4, 1, 0] rfl (ih (a3 ||| (0 : Int32)) (a4 + (1 : Int32)) M18 _ _ h K)
        · have h := (if_neg c20).symm.trans h
          refine am_iconst F (v := (1 : Int32)) dX10_blockers_84 (by decide) ?_
          refine am_iload F 4 dX10_blockers_85 rfl ?_
          refine am_ishl F dX10_blockers_87 ?_
          refine am_goto F (tgt := 92) dX10_blockers_88 (by decide) ?_
          refine am_ior F dX10_blockers_92 ?_
          refine am_istore_n F [(3, .int (a3 ||| ((1 : Int32) <<< (a4 &&& 31)))), (0, .ref (z + 174)), (1, .int a1), (2, .int a2), (4, .int a4)] dX10_blockers_93 rfl (by decide) rfl ?_
          refine am_iinc F [(4, .int (a4 + (1 : Int32))), (3, .int (a3 ||| ((1 : Int32) <<< (a4 &&& 31)))), (0, .ref (z + 174)), (1, .int a1), (2, .int a2)] 4 dX10_blockers_94 (by decide) rfl rfl rfl ?_
          refine am_goto F (tgt := 50) dX10_blockers_97 (by decide) ?_
          exact am_sub (lv' := [(0, .ref (z + 174)), (1, .int a1), (2, .int a2), (3, .int (a3 ||| ((1 : Int32) <<< (a4 &&& 31)))), (4, .int (a4 + (1 : Int32)))]) [2, 3, 4, 1, 0] rfl (ih (a3 ||| ((1 : Int32) <<< (a4 &&& 31))) (a4 + (1 : Int32)) M18 _ _ h K)
def g_X10_blockers (a1 : Int32) (a2 : Int32) (M : am_M) : Option (Int32 × am_M) := (am_b (g_X10_isRobot a1 (am_s M 174 0 (0 : Int32))) (fun v3 M2 => (if v3 = (0 : Int32) then (am_b (g_X10_fails (1 : Int32) M2) (fun v6 M5 => (some (v6, M5)))) else (am_b (g_X10_isCell a2 M2) (fun v9 M8 => (if v9 = (0 : Int32) then (am_b (g_X10_fails (1 : Int32) M8) (fun v30 M29 => (some (v30, M29)))) else (am_b (g_X10_isInLift a1 M8) (fun v12 M11 => (if v12 = (0 : Int32) then (am_b (g_X10_hasRoute a1 a2 M11) (fun v15 M14 => (if v15 = (0 : Int32) then (am_b (g_X10_blockers_L50 a1 a2 am_fu (0 : Int32) (0 : Int32) M14) (fun x23 M24 => (some (x23, (am_s M24 174 11 (-1 : Int32)))))) else (some ((0 : Int32), M14))))) else (some ((0 : Int32), M11)))))))))))
set_option maxHeartbeats 4000000 in
set_option maxRecDepth 100000 in
theorem c_X10_blockers (l : Launch) (D : va_G) (E : Nat → ClassId) (z : Nat) (a1 : Int32) (a2 : Int32) (M : am_M) (r0 : Int32) (M1 : am_M) (h : g_X10_blockers a1 a2 M = some (r0, M1)) : am_Mi l yX10_blockers cX10_blockers 5 (some .int) rm_X10_blockers D E z [.ref (z + 174), .int a1, .int a2] M r0 M1 := by
  unfold g_X10_blockers at h
  refine am_of (own := RX10) (by decide +kernel) rfl (by exact Nat.le_of_ble_eq_true rfl) ?_
  intro p e s m args below meth c F hr
  show am_W p l e rm_X10_blockers s m args below meth c _ 5 D E z 0 0 M 0 [(0, .ref (z + 174)), (1, .int a1), (2, .int a2)] []
  refine am_aload_n F 0 dX10_blockers_0 rfl rfl ?_
  refine am_iconst F (v := (0 : Int32)) dX10_blockers_1 (by decide) ?_
  refine pf_X10_51 F lyk_174 dX10_blockers_2 ?_
  refine am_aload_n F 0 dX10_blockers_5 rfl rfl ?_
  refine am_iload_n F 1 dX10_blockers_6 rfl rfl ?_
  obtain ⟨v3, M2, h1, h⟩ := am_bE h
  refine am_callVi F [.int a1] lyk_174 (by decide) rfl cw_X10_173 (c_X10_isRobot l D E z a1 (am_s M 174 0 (0 : Int32)) v3 M2 h1) yn_X10_isRobot rfl ⟨Nat.le_of_ble_eq_true rfl, Nat.le_of_ble_eq_true rfl⟩ rfl rfl (Nat.le_of_ble_eq_true rfl) ⟨Nat.zero_le _, Nat.zero_le _⟩ dX10_blockers_7 rfl ?_
  refine am_if_eq F (tgt := 20) dX10_blockers_10 (by decide) (fun c32 => ?_) (fun c32 => ?_)
  · have h := (if_pos c32).symm.trans h
    refine am_aload_n F 0 dX10_blockers_20 rfl rfl ?_
    refine am_iconst F (v := (1 : Int32)) dX10_blockers_21 (by decide) ?_
    obtain ⟨v6, M5, h4, h⟩ := am_bE h
    refine am_callVi F [.int (1 : Int32)] lyk_174 (by decide) rfl cw_X10_164 (c_X10_fails l D E z (1 : Int32) M2 v6 M5 h4) yn_X10_fails rfl ⟨Nat.le_of_ble_eq_true rfl, Nat.le_of_ble_eq_true rfl⟩ rfl rfl (Nat.le_of_ble_eq_true rfl) ⟨Nat.zero_le _, Nat.zero_le _⟩ dX10_blockers_22 rfl ?_
    exact am_iret F hr h dX10_blockers_25
  · have h := (if_neg c32).symm.trans h
    refine am_iload_n F 2 dX10_blockers_13 rfl rfl ?_
    obtain ⟨v9, M8, h7, h⟩ := am_bE h
    refine am_callSi F [.int a2] cw_X10_161 rfl (c_X10_isCell l D E z a2 M2 v9 M8 h7) yn_X10_isCell rfl ⟨Nat.le_of_ble_eq_true rfl, Nat.le_of_ble_eq_true rfl⟩ rfl rfl (Nat.le_of_ble_eq_true rfl) ⟨Nat.zero_le _, Nat.zero_le _⟩ dX10_blockers_14 rfl ?_
    refine am_if_ne F (tgt := 26) dX10_blockers_17 (by decide) (fun c31 => ?_) (fun c31 => ?_)
    · have h := (if_neg c31).symm.trans h
      refine am_aload_n F 0 dX10_blockers_26 rfl rfl ?_
      refine am_iload_n F 1 dX10_blockers_27 rfl rfl ?_
      obtain ⟨v12, M11, h10, h⟩ := am_bE h
      refine am_callVi F [.int a1] lyk_174 (by decide) rfl cw_X10_151 (c_X10_isInLift l D E z a1 M8 v12 M11 h10) yn_X10_isInLift rfl ⟨Nat.le_of_ble_eq_true rfl, Nat.le_of_ble_eq_true rfl⟩ rfl rfl (Nat.le_of_ble_eq_true rfl) ⟨Nat.zero_le _, Nat.zero_le _⟩ dX10_blockers_28 rfl ?_
      refine am_if_ne F (tgt := 43) dX10_blockers_31 (by decide) (fun c27 => ?_) (fun c27 => ?_)
      · have h := (if_neg c27).symm.trans h
        refine am_iconst F (v := (0 : Int32)) dX10_blockers_43 (by decide) ?_
        exact am_iret F hr h dX10_blockers_44
      · have h := (if_pos c27).symm.trans h
        refine am_aload_n F 0 dX10_blockers_34 rfl rfl ?_
        refine am_iload_n F 1 dX10_blockers_35 rfl rfl ?_
        refine am_iload_n F 2 dX10_blockers_36 rfl rfl ?_
        obtain ⟨v15, M14, h13, h⟩ := am_bE h
        refine am_callVi F [.int a1, .int a2] lyk_174 (by decide) rfl cw_X10_154 (c_X10_hasRoute l D E z a1 a2 M11 v15 M14 h13) yn_X10_hasRoute rfl ⟨Nat.le_of_ble_eq_true rfl, Nat.le_of_ble_eq_true rfl⟩ rfl rfl (Nat.le_of_ble_eq_true rfl) ⟨Nat.zero_le _, Nat.zero_le _⟩ dX10_blockers_37 rfl ?_
        refine am_if_eq F (tgt := 45) dX10_blockers_40 (by decide) (fun c26 => ?_) (fun c26 => ?_)
        · have h := (if_pos c26).symm.trans h
          refine am_iconst F (v := (0 : Int32)) dX10_blockers_45 (by decide) ?_
          refine am_istore_n F [(3, .int (0 : Int32)), (0, .ref (z + 174)), (1, .int a1), (2, .int a2)] dX10_blockers_46 rfl (by decide) rfl ?_
          refine am_iconst F (v := (0 : Int32)) dX10_blockers_47 (by decide) ?_
          refine am_istore F [(4, .int (0 : Int32)), (3, .int (0 : Int32)), (0, .ref (z + 174)), (1, .int a1), (2, .int a2)] dX10_blockers_48 (by decide) rfl ?_
          obtain ⟨x23, M24, h25, h⟩ := am_bE h
          refine am_sub (lv' := [(0, .ref (z + 174)), (1, .int a1), (2, .int a2), (3, .int (0 : Int32)), (4, .int (0 : Int32))]) [2, 3, 4, 1, 0] rfl (cl_X10_blockers_L50 F a1 a2 am_fu (0 : Int32) (0 : Int32) M14 x23 M24 h25 ?_)
          refine am_aload_n F 0 dX10_blockers_100 rfl rfl ?_
          refine am_iconst F (v := (-1 : Int32)) dX10_blockers_101 (by decide) ?_
          refine pf_X10_35 F lyk_174 dX10_blockers_102 ?_
          refine am_iload_n F 1 dX10_blockers_105 rfl rfl ?_
          exact am_iret F hr h dX10_blockers_106
        · have h := (if_neg c26).symm.trans h
          refine am_iconst F (v := (0 : Int32)) dX10_blockers_43 (by decide) ?_
          exact am_iret F hr h dX10_blockers_44
    · have h := (if_pos c31).symm.trans h
      refine am_aload_n F 0 dX10_blockers_20 rfl rfl ?_
      refine am_iconst F (v := (1 : Int32)) dX10_blockers_21 (by decide) ?_
      obtain ⟨v30, M29, h28, h⟩ := am_bE h
      refine am_callVi F [.int (1 : Int32)] lyk_174 (by decide) rfl cw_X10_164 (c_X10_fails l D E z (1 : Int32) M8 v30 M29 h28) yn_X10_fails rfl ⟨Nat.le_of_ble_eq_true rfl, Nat.le_of_ble_eq_true rfl⟩ rfl rfl (Nat.le_of_ble_eq_true rfl) ⟨Nat.zero_le _, Nat.zero_le _⟩ dX10_blockers_22 rfl ?_
      exact am_iret F hr h dX10_blockers_25
/-! AisleSchedulerModel.isIdle(I)Z -/
abbrev rm_X10_isIdle : Room := { frames := 2, cells := 0, slots := 0, locals := 46 }
theorem yn_X10_isIdle : am_yn yX10_isIdle 1 := ⟨⟨by decide +kernel, by decide +kernel⟩, by decide +kernel⟩
def g_X10_isIdle (a1 : Int32) (M : am_M) : Option (Int32 × am_M) := (am_b (g_X10_of a1 (2 : Int32) M) (fun v3 M2 => (if v3 = (0 : Int32) then (some ((1 : Int32), M2)) else (some ((0 : Int32), M2)))))
set_option maxHeartbeats 4000000 in
set_option maxRecDepth 100000 in
theorem c_X10_isIdle (l : Launch) (D : va_G) (E : Nat → ClassId) (z : Nat) (a1 : Int32) (M : am_M) (r0 : Int32) (M1 : am_M) (h : g_X10_isIdle a1 M = some (r0, M1)) : am_Mi l yX10_isIdle cX10_isIdle 2 (some .boolean) rm_X10_isIdle D E z [.ref (z + 174), .int a1] M r0 M1 := by
  unfold g_X10_isIdle at h
  refine am_of (own := RX10) (by decide +kernel) rfl (by exact Nat.le_of_ble_eq_true rfl) ?_
  intro p e s m args below meth c F hr
  show am_W p l e rm_X10_isIdle s m args below meth c _ 2 D E z 0 0 M 0 [(0, .ref (z + 174)), (1, .int a1)] []
  refine am_aload_n F 0 dX10_isIdle_0 rfl rfl ?_
  refine am_iload_n F 1 dX10_isIdle_1 rfl rfl ?_
  refine am_iconst F (v := (2 : Int32)) dX10_isIdle_2 (by decide) ?_
  obtain ⟨v3, M2, h1, h⟩ := am_bE h
  refine am_callVi F [.int a1, .int (2 : Int32)] lyk_174 (by decide) rfl cw_X10_58 (c_X10_of l D E z a1 (2 : Int32) M v3 M2 h1) yn_X10_of rfl ⟨Nat.le_of_ble_eq_true rfl, Nat.le_of_ble_eq_true rfl⟩ rfl rfl (Nat.le_of_ble_eq_true rfl) ⟨Nat.zero_le _, Nat.zero_le _⟩ dX10_isIdle_3 rfl ?_
  refine am_if_ne F (tgt := 13) dX10_isIdle_6 (by decide) (fun c4 => ?_) (fun c4 => ?_)
  · have h := (if_neg c4).symm.trans h
    refine am_iconst F (v := (0 : Int32)) dX10_isIdle_13 (by decide) ?_
    exact am_zret F hr (by decide) h dX10_isIdle_14
  · have h := (if_pos c4).symm.trans h
    refine am_iconst F (v := (1 : Int32)) dX10_isIdle_9 (by decide) ?_
    refine am_goto F (tgt := 14) dX10_isIdle_10 (by decide) ?_
    exact am_zret F hr (by decide) h dX10_isIdle_14
/-! AisleSchedulerModel.makes(IIII)Z -/
abbrev rm_X10_makes : Room := { frames := 9, cells := 0, slots := 0, locals := 217 }
theorem yn_X10_makes : am_yn yX10_makes 4 := ⟨⟨by decide +kernel, by decide +kernel⟩, by decide +kernel⟩
def g_X10_makes (a1 : Int32) (a2 : Int32) (a3 : Int32) (a4 : Int32) (M : am_M) : Option (Int32 × am_M) := (am_b (g_X10_canPlan a3 a4 M) (fun v3 M2 => (if v3 = (0 : Int32) then (some ((0 : Int32), M2)) else (am_b (g_X10_follows a3 M2) (fun _ M5 => (am_b (g_X10_canPlan a1 a2 M5) (fun v8 M7 => (if v8 = (0 : Int32) then (am_b (g_X10_put a3 (2 : Int32) (0 : Int32) M7) (fun _ M10 => (some ((0 : Int32), M10)))) else (am_b (g_X10_follows a1 M7) (fun _ M12 => (some ((1 : Int32), M12))))))))))))
set_option maxHeartbeats 4000000 in
set_option maxRecDepth 100000 in
theorem c_X10_makes (l : Launch) (D : va_G) (E : Nat → ClassId) (z : Nat) (a1 : Int32) (a2 : Int32) (a3 : Int32) (a4 : Int32) (M : am_M) (r0 : Int32) (M1 : am_M) (h : g_X10_makes a1 a2 a3 a4 M = some (r0, M1)) : am_Mi l yX10_makes cX10_makes 5 (some .boolean) rm_X10_makes D E z [.ref (z + 174), .int a1, .int a2, .int a3, .int a4] M r0 M1 := by
  unfold g_X10_makes at h
  refine am_of (own := RX10) (by decide +kernel) rfl (by exact Nat.le_of_ble_eq_true rfl) ?_
  intro p e s m args below meth c F hr
  show am_W p l e rm_X10_makes s m args below meth c _ 5 D E z 0 0 M 0 [(0, .ref (z + 174)), (1, .int a1), (2, .int a2), (3, .int a3), (4, .int a4)] []
  refine am_aload_n F 0 dX10_makes_0 rfl rfl ?_
  refine am_iload_n F 3 dX10_makes_1 rfl rfl ?_
  refine am_iload F 4 dX10_makes_2 rfl ?_
  obtain ⟨v3, M2, h1, h⟩ := am_bE h
  refine am_callVi F [.int a3, .int a4] lyk_174 (by decide) rfl cw_X10_197 (c_X10_canPlan l D E z a3 a4 M v3 M2 h1) yn_X10_canPlan rfl ⟨Nat.le_of_ble_eq_true rfl, Nat.le_of_ble_eq_true rfl⟩ rfl rfl (Nat.le_of_ble_eq_true rfl) ⟨Nat.zero_le _, Nat.zero_le _⟩ dX10_makes_4 rfl ?_
  refine am_if_ne F (tgt := 12) dX10_makes_7 (by decide) (fun c14 => ?_) (fun c14 => ?_)
  · have h := (if_neg c14).symm.trans h
    refine am_aload_n F 0 dX10_makes_12 rfl rfl ?_
    refine am_iload_n F 3 dX10_makes_13 rfl rfl ?_
    obtain ⟨_, M5, h4, h⟩ := am_bE h
    refine am_callVv F [.int a3] lyk_174 (by decide) rfl cw_X10_194 (c_X10_follows l D E z a3 M2 M5 h4) yn_X10_follows rfl ⟨Nat.le_of_ble_eq_true rfl, Nat.le_of_ble_eq_true rfl⟩ rfl rfl (Nat.le_of_ble_eq_true rfl) ⟨Nat.zero_le _, Nat.zero_le _⟩ dX10_makes_14 rfl ?_
    refine am_aload_n F 0 dX10_makes_17 rfl rfl ?_
    refine am_iload_n F 1 dX10_makes_18 rfl rfl ?_
    refine am_iload_n F 2 dX10_makes_19 rfl rfl ?_
    obtain ⟨v8, M7, h6, h⟩ := am_bE h
    refine am_callVi F [.int a1, .int a2] lyk_174 (by decide) rfl cw_X10_197 (c_X10_canPlan l D E z a1 a2 M5 v8 M7 h6) yn_X10_canPlan rfl ⟨Nat.le_of_ble_eq_true rfl, Nat.le_of_ble_eq_true rfl⟩ rfl rfl (Nat.le_of_ble_eq_true rfl) ⟨Nat.zero_le _, Nat.zero_le _⟩ dX10_makes_20 rfl ?_
    refine am_if_eq F (tgt := 33) dX10_makes_23 (by decide) (fun c13 => ?_) (fun c13 => ?_)
    · have h := (if_pos c13).symm.trans h
      refine am_aload_n F 0 dX10_makes_33 rfl rfl ?_
      refine am_iload_n F 3 dX10_makes_34 rfl rfl ?_
      refine am_iconst F (v := (2 : Int32)) dX10_makes_35 (by decide) ?_
      refine am_iconst F (v := (0 : Int32)) dX10_makes_36 (by decide) ?_
      obtain ⟨_, M10, h9, h⟩ := am_bE h
      refine am_callVv F [.int a3, .int (2 : Int32), .int (0 : Int32)] lyk_174 (by decide) rfl cw_X10_145 (c_X10_put l D E z a3 (2 : Int32) (0 : Int32) M7 M10 h9) yn_X10_put rfl ⟨Nat.le_of_ble_eq_true rfl, Nat.le_of_ble_eq_true rfl⟩ rfl rfl (Nat.le_of_ble_eq_true rfl) ⟨Nat.zero_le _, Nat.zero_le _⟩ dX10_makes_37 rfl ?_
      refine am_iconst F (v := (0 : Int32)) dX10_makes_40 (by decide) ?_
      exact am_zret F hr (by decide) h dX10_makes_41
    · have h := (if_neg c13).symm.trans h
      refine am_aload_n F 0 dX10_makes_26 rfl rfl ?_
      refine am_iload_n F 1 dX10_makes_27 rfl rfl ?_
      obtain ⟨_, M12, h11, h⟩ := am_bE h
      refine am_callVv F [.int a1] lyk_174 (by decide) rfl cw_X10_194 (c_X10_follows l D E z a1 M7 M12 h11) yn_X10_follows rfl ⟨Nat.le_of_ble_eq_true rfl, Nat.le_of_ble_eq_true rfl⟩ rfl rfl (Nat.le_of_ble_eq_true rfl) ⟨Nat.zero_le _, Nat.zero_le _⟩ dX10_makes_28 rfl ?_
      refine am_iconst F (v := (1 : Int32)) dX10_makes_31 (by decide) ?_
      exact am_zret F hr (by decide) h dX10_makes_32
  · have h := (if_pos c14).symm.trans h
    refine am_iconst F (v := (0 : Int32)) dX10_makes_10 (by decide) ?_
    exact am_zret F hr (by decide) h dX10_makes_11
/-! AisleSchedulerModel.makeWay(II)I -/
abbrev rm_X10_makeWay : Room := { frames := 10, cells := 0, slots := 0, locals := 241 }
theorem yn_X10_makeWay : am_yn yX10_makeWay 2 := ⟨⟨by decide +kernel, by decide +kernel⟩, by decide +kernel⟩
def g_X10_makeWay_L85 (a1 : Int32) (a2 : Int32) (a3 : Int32) (a4 : Int32) : Nat → Int32 → am_M → Option ((Nat) × am_M)
  | 0, _, _ => none
  | n + 1, a5, M => (if (40 : Int32) ≤ a5 then (some (117, M)) else (if a4 = (0 : Int32) then (some (117, M)) else (am_b (g_X10_makes a1 a2 a3 a5 M) (fun v22 M21 => (if v22 = (0 : Int32) then (g_X10_makeWay_L85 a1 a2 a3 a4 n (a5 + (1 : Int32)) M21) else (some (109, M21)))))))
set_option maxHeartbeats 4000000 in
set_option maxRecDepth 100000 in
theorem cl_X10_makeWay_L85 {l : Launch} {p : Program} {e : Env} {s : State} {m : MethodId} {args : Array Value} {below : List Frame} {meth : Method} {c : Code} {Q : State → Prop} {D : va_G} {E : Nat → ClassId} {z : Nat} (F : am_F p s m args meth c cX10_makeWay 6 RX10 D E z) (a1 : Int32) (a2 : Int32) (a3 : Int32) (a4 : Int32) : ∀ (n : Nat) (a5 : Int32) (M : am_M) (x : Nat) (M1 : am_M), g_X10_makeWay_L85 a1 a2 a3 a4 n a5 M = some (x, M1) → ((x = 109 → am_W p l e rm_X10_makeWay s m args below meth c Q 6 D E z 0 0 M1 109 [(3, .int a3)] []) ∧ (x = 117 → am_W p l e rm_X10_makeWay s m args below meth c Q 6 D E z 0 0 M1 117 [(0, .ref (z + 174)), (1, .int a1), (2, .int a2), (3, .int a3)] [])) → am_W p l e rm_X10_makeWay s m args below meth c Q 6 D E z 0 0 M 85 [(0, .ref (z + 174)), (1, .int a1), (2, .int a2), (3, .int a3), (4, .int a4), (5, .int a5)] [] := by
  intro n
  induction n with
  | zero => intro a5 M x M1 h K; cases h
  | succ n ih =>
    intro a5 M x M1 h K
    rw [g_X10_makeWay_L85] at h
    refine am_iload F 5 dX10_makeWay_85 rfl ?_
    refine am_bipush F (v := (40 : Int32)) dX10_makeWay_87 (by decide) ?_
    refine am_icmp_ge F (tgt := 117) dX10_makeWay_89 (by decide) (fun c25 => ?_) (fun c25 => ?_)
    · have h := (if_pos c25).symm.trans h
      cases h
      exact am_sub (lv' := [(0, .ref (z + 174)), (1, .int a1), (2, .int a2), (3, .int a3)]) [0, 1, 2, 3] rfl (K.2 rfl)
    · have h := (if_neg c25).symm.trans h
      refine am_iload F 4 dX10_makeWay_92 rfl ?_
      refine am_if_eq F (tgt := 117) dX10_makeWay_94 (by decide) (fun c24 => ?_) (fun c24 => ?_)
      · have h := (if_pos c24).symm.trans h
        cases h
        exact am_sub (lv' := [(0, .ref (z + 174)), (1, .int a1), (2, .int a2), (3, .int a3)]) [0, 1, 2, 3] rfl (K.2 rfl)
      · have h := (if_neg c24).symm.trans h
        refine am_aload_n F 0 dX10_makeWay_97 rfl rfl ?_
        refine am_iload_n F 1 dX10_makeWay_98 rfl rfl ?_
        refine am_iload_n F 2 dX10_makeWay_99 rfl rfl ?_
        refine am_iload_n F 3 dX10_makeWay_100 rfl rfl ?_
        refine am_iload F 5 dX10_makeWay_101 rfl ?_
        obtain ⟨v22, M21, h20, h⟩ := am_bE h
        refine am_callVi F [.int a1, .int a2, .int a3, .int a5] lyk_174 (by decide) rfl cw_X10_203 (c_X10_makes l D E z a1 a2 a3 a5 M v22 M21 h20) yn_X10_makes rfl ⟨Nat.le_of_ble_eq_true rfl, Nat.le_of_ble_eq_true rfl⟩ rfl rfl (Nat.le_of_ble_eq_true rfl) ⟨Nat.zero_le _, Nat.zero_le _⟩ dX10_makeWay_103 rfl ?_
        refine am_if_eq F (tgt := 111) dX10_makeWay_106 (by decide) (fun c23 => ?_) (fun c23 => ?_)
        · have h := (if_pos c23).symm.trans h
          refine am_iinc F [(5, .int (a5 + (1 : Int32))), (0, .ref (z + 174)), (1, .int a1), (2, .int a2), (3, .int a3), (4, .int a4)] 5 dX10_makeWay_111 (by decide) rfl rfl rfl ?_
          refine am_goto F (tgt := 85) dX10_makeWay_114 (by decide) ?_
          exact am_sub (lv' := [(0, .ref (z + 174)), (1, .int a1), (2, .int a2), (3, .int a3), (4, .int a4), (5, .int (a5 + (1 : Int32)))]) [1, 2, 3, 4, 5, 0] rfl (ih (a5 + (1 : Int32)) M21 _ _ h K)
        · have h := (if_neg c23).symm.trans h
          cases h
          exact am_sub (lv' := [(3, .int a3)]) [3] rfl (K.1 rfl)
def g_X10_makeWay_L51 (a1 : Int32) (a2 : Int32) : Nat → Int32 → am_M → Option ((Nat × Int32) × am_M)
  | 0, _, _ => none
  | n + 1, a3, M => (am_ci (6 : Int32) 406 (if (am_g M 175 (6 : Int32).toNatClampNeg) ≤ a3 then (some ((123, a3), M)) else (if a3 = a1 then (am_b (g_X10_makeWay_L85 a1 a2 a3 (0 : Int32) am_fu (0 : Int32) M) (fun x26 M27 => (if x26 = 109 then (some ((109, a3), M27)) else (g_X10_makeWay_L51 a1 a2 n (a3 + (1 : Int32)) M27)))) else (am_b (g_X10_isIdle a3 M) (fun v32 M31 => (if v32 = (0 : Int32) then (am_b (g_X10_makeWay_L85 a1 a2 a3 (0 : Int32) am_fu (0 : Int32) M31) (fun x33 M34 => (if x33 = 109 then (some ((109, a3), M34)) else (g_X10_makeWay_L51 a1 a2 n (a3 + (1 : Int32)) M34)))) else (am_b (g_X10_makeWay_L85 a1 a2 a3 (1 : Int32) am_fu (0 : Int32) M31) (fun x37 M38 => (if x37 = 109 then (some ((109, a3), M38)) else (g_X10_makeWay_L51 a1 a2 n (a3 + (1 : Int32)) M38))))))))))
set_option maxHeartbeats 4000000 in
set_option maxRecDepth 100000 in
theorem cl_X10_makeWay_L51 {l : Launch} {p : Program} {e : Env} {s : State} {m : MethodId} {args : Array Value} {below : List Frame} {meth : Method} {c : Code} {Q : State → Prop} {D : va_G} {E : Nat → ClassId} {z : Nat} (F : am_F p s m args meth c cX10_makeWay 6 RX10 D E z) (a1 : Int32) (a2 : Int32) : ∀ (n : Nat) (a3 : Int32) (M : am_M) (x : Nat × Int32) (M1 : am_M), g_X10_makeWay_L51 a1 a2 n a3 M = some (x, M1) → ((x.1 = 109 → am_W p l e rm_X10_makeWay s m args below meth c Q 6 D E z 0 0 M1 109 [(3, .int x.2)] []) ∧ (x.1 = 123 → am_W p l e rm_X10_makeWay s m args below meth c Q 6 D E z 0 0 M1 123 [(0, .ref (z + 174))] [])) → am_W p l e rm_X10_makeWay s m args below meth c Q 6 D E z 0 0 M 51 [(0, .ref (z + 174)), (1, .int a1), (2, .int a2), (3, .int a3)] [] := by
  intro n
  induction n with
  | zero => intro a3 M x M1 h K; cases h
  | succ n ih =>
    intro a3 M x M1 h K
    rw [g_X10_makeWay_L51] at h
    refine am_iload_n F 3 dX10_makeWay_51 rfl rfl ?_
    refine am_aload_n F 0 dX10_makeWay_52 rfl rfl ?_
    refine gf_X10_7 F lyk_174 dX10_makeWay_53 ?_
    refine am_bipush F (v := (6 : Int32)) dX10_makeWay_56 (by decide) ?_
    obtain ⟨q19, h⟩ := am_ciE h
    refine am_iald F lyk_175 q19 dX10_makeWay_58 ?_
    refine am_icmp_ge F (tgt := 123) dX10_makeWay_59 (by decide) (fun c43 => ?_) (fun c43 => ?_)
    · have h := (if_pos c43).symm.trans h
      cases h
      exact am_sub (lv' := [(0, .ref (z + 174))]) [0] rfl (K.2 rfl)
    · have h := (if_neg c43).symm.trans h
      refine am_iload_n F 3 dX10_makeWay_62 rfl rfl ?_
      refine am_iload_n F 1 dX10_makeWay_63 rfl rfl ?_
      refine am_icmp_eq F (tgt := 79) dX10_makeWay_64 (by decide) (fun c42 => ?_) (fun c42 => ?_)
      · have h := (if_pos c42).symm.trans h
        refine am_iconst F (v := (0 : Int32)) dX10_makeWay_79 (by decide) ?_
        refine am_istore F [(4, .int (0 : Int32)), (0, .ref (z + 174)), (1, .int a1), (2, .int a2), (3, .int a3)] dX10_makeWay_80 (by decide) rfl ?_
        refine am_iconst F (v := (0 : Int32)) dX10_makeWay_82 (by decide) ?_
        refine am_istore F [(5, .int (0 : Int32)), (4, .int (0 : Int32)), (0, .ref (z + 174)), (1, .int a1), (2, .int a2), (3, .int a3)] dX10_makeWay_83 (by decide) rfl ?_
        obtain ⟨x26, M27, h28, h⟩ := am_bE h
        refine am_sub (lv' := [(0, .ref (z + 174)), (1, .int a1), (2, .int a2), (3, .int a3), (4, .int (0 : Int32)), (5, .int (0 : Int32))]) [2, 3, 4, 5, 1, 0] rfl (cl_X10_makeWay_L85 F a1 a2 a3 (0 : Int32) am_fu (0 : Int32) M x26 M27 h28 ⟨fun c29 => ?_, fun c29 => ?_⟩)
        · have h := (if_pos c29).symm.trans h
          cases h
          exact am_sub (lv' := [(3, .int a3)]) [0] rfl (K.1 rfl)
        · have h := (if_neg (by rw [c29]; decide)).symm.trans h
          refine am_iinc F [(3, .int (a3 + (1 : Int32))), (0, .ref (z + 174)), (1, .int a1), (2, .int a2)] 3 dX10_makeWay_117 (by decide) rfl rfl rfl ?_
          refine am_goto F (tgt := 51) dX10_makeWay_120 (by decide) ?_
          exact am_sub (lv' := [(0, .ref (z + 174)), (1, .int a1), (2, .int a2), (3, .int (a3 + (1 : Int32)))]) [1, 2, 3, 0] rfl (ih (a3 + (1 : Int32)) M27 _ _ h K)
      · have h := (if_neg c42).symm.trans h
        refine am_aload_n F 0 dX10_makeWay_67 rfl rfl ?_
        refine am_iload_n F 3 dX10_makeWay_68 rfl rfl ?_
        obtain ⟨v32, M31, h30, h⟩ := am_bE h
        refine am_callVi F [.int a3] lyk_174 (by decide) rfl cw_X10_200 (c_X10_isIdle l D E z a3 M v32 M31 h30) yn_X10_isIdle rfl ⟨Nat.le_of_ble_eq_true rfl, Nat.le_of_ble_eq_true rfl⟩ rfl rfl (Nat.le_of_ble_eq_true rfl) ⟨Nat.zero_le _, Nat.zero_le _⟩ dX10_makeWay_69 rfl ?_
        refine am_if_eq F (tgt := 79) dX10_makeWay_72 (by decide) (fun c41 => ?_) (fun c41 => ?_)
        · have h := (if_pos c41).symm.trans h
          refine am_iconst F (v := (0 : Int32)) dX10_makeWay_79 (by decide) ?_
          refine am_istore F [(4, .int (0 : Int32)), (0, .ref (z + 174)), (1, .int a1), (2, .int a2), (3, .int a3)] dX10_makeWay_80 (by decide) rfl ?_
          refine am_iconst F (v := (0 : Int32)) dX10_makeWay_82 (by decide) ?_
          refine am_istore F [(5, .int (0 : Int32)), (4, .int (0 : Int32)), (0, .ref (z + 174)), (1, .int a1), (2, .int a2), (3, .int a3)] dX10_makeWay_83 (by decide) rfl ?_
          obtain ⟨x33, M34, h35, h⟩ := am_bE h
          refine am_sub (lv' := [(0, .ref (z + 174)), (1, .int a1), (2, .int a2), (3, .int a3), (4, .int (0 : Int32)), (5, .int (0 : Int32))]) [2, 3, 4, 5, 1, 0] rfl (cl_X10_makeWay_L85 F a1 a2 a3 (0 : Int32) am_fu (0 : Int32) M31 x33 M34 h35 ⟨fun c36 => ?_, fun c36 => ?_⟩)
          · have h := (if_pos c36).symm.trans h
            cases h
            exact am_sub (lv' := [(3, .int a3)]) [0] rfl (K.1 rfl)
          · have h := (if_neg (by rw [c36]; decide)).symm.trans h
            refine am_iinc F [(3, .int (a3 + (1 : Int32))), (0, .ref (z + 174)), (1, .int a1), (2, .int a2)] 3 dX10_makeWay_117 (by decide) rfl rfl rfl ?_
            refine am_goto F (tgt := 51) dX10_makeWay_120 (by decide) ?_
            exact am_sub (lv' := [(0, .ref (z + 174)), (1, .int a1), (2, .int a2), (3, .int (a3 + (1 : Int32)))]) [1, 2, 3, 0] rfl (ih (a3 + (1 : Int32)) M34 _ _ h K)
        · have h := (if_neg c41).symm.trans h
          refine am_iconst F (v := (1 : Int32)) dX10_makeWay_75 (by decide) ?_
          refine am_goto F (tgt := 80) dX10_makeWay_76 (by decide) ?_
          refine am_istore F [(4, .int (1 : Int32)), (0, .ref (z + 174)), (1, .int a1), (2, .int a2), (3, .int a3)] dX10_makeWay_80 (by decide) rfl ?_
          refine am_iconst F (v := (0 : Int32)) dX10_makeWay_82 (by decide) ?_
          refine am_istore F [(5, .int (0 : Int32)), (4, .int (1 : Int32)), (0, .ref (z + 174)), (1, .int a1), (2, .int a2), (3, .int a3)] dX10_makeWay_83 (by decide) rfl ?_
          obtain ⟨x37, M38, h39, h⟩ := am_bE h
          refine am_sub (lv' := [(0, .ref (z + 174)), (1, .int a1), (2, .int a2), (3, .int a3), (4, .int (1 : Int32)), (5, .int (0 : Int32))]) [2, 3, 4, 5, 1, 0] rfl (cl_X10_makeWay_L85 F a1 a2 a3 (1 : Int32) am_fu (0 : Int32) M31 x37 M38 h39 ⟨fun c40 => ?_, fun c40 => ?_⟩)
          · have h := (if_pos c40).symm.trans h
            cases h
            exact am_sub (lv' := [(3, .int a3)]) [0] rfl (K.1 rfl)
          · have h := (if_neg (by rw [c40]; decide)).symm.trans h
            refine am_iinc F [(3, .int (a3 + (1 : Int32))), (0, .ref (z + 174)), (1, .int a1), (2, .int a2)] 3 dX10_makeWay_117 (by decide) rfl rfl rfl ?_
            refine am_goto F (tgt := 51) dX10_makeWay_120 (by decide) ?_
            exact am_sub (lv' := [(0, .ref (z + 174)), (1, .int a1), (2, .int a2), (3, .int (a3 + (1 : Int32)))]) [1, 2, 3, 0] rfl (ih (a3 + (1 : Int32)) M38 _ _ h K)
def g_X10_makeWay (a1 : Int32) (a2 : Int32) (M : am_M) : Option (Int32 × am_M) := (am_b (g_X10_isRobot a1 (am_s M 174 0 (0 : Int32))) (fun v3 M2 => (if v3 = (0 : Int32) then (am_b (g_X10_fails (1 : Int32) M2) (fun v6 M5 => (some (v6, M5)))) else (am_b (g_X10_isCell a2 M2) (fun v9 M8 => (if v9 = (0 : Int32) then (am_b (g_X10_fails (1 : Int32) M8) (fun v58 M57 => (some (v58, M57)))) else (am_b (g_X10_isInLift a1 M8) (fun v12 M11 => (if v12 = (0 : Int32) then (am_b (g_X10_canPlan a1 a2 M11) (fun v18 M17 => (if v18 = (0 : Int32) then (am_b (g_X10_makeWay_L51 a1 a2 am_fu (0 : Int32) M17) (fun x44 M45 => (if x44.1 = 109 then (some (x44.2, M45)) else (am_b (g_X10_fails (3 : Int32) M45) (fun v50 M49 => (some (v50, M49))))))) else (am_b (g_X10_fails (2 : Int32) M17) (fun v53 M52 => (some (v53, M52))))))) else (am_b (g_X10_fails (2 : Int32) M11) (fun v15 M14 => (some (v15, M14)))))))))))))
set_option maxHeartbeats 4000000 in
set_option maxRecDepth 100000 in
theorem c_X10_makeWay (l : Launch) (D : va_G) (E : Nat → ClassId) (z : Nat) (a1 : Int32) (a2 : Int32) (M : am_M) (r0 : Int32) (M1 : am_M) (h : g_X10_makeWay a1 a2 M = some (r0, M1)) : am_Mi l yX10_makeWay cX10_makeWay 6 (some .int) rm_X10_makeWay D E z [.ref (z + 174), .int a1, .int a2] M r0 M1 := by
  unfold g_X10_makeWay at h
  refine am_of (own := RX10) (by decide +kernel) rfl (by exact Nat.le_of_ble_eq_true rfl) ?_
  intro p e s m args below meth c F hr
  show am_W p l e rm_X10_makeWay s m args below meth c _ 6 D E z 0 0 M 0 [(0, .ref (z + 174)), (1, .int a1), (2, .int a2)] []
  refine am_aload_n F 0 dX10_makeWay_0 rfl rfl ?_
  refine am_iconst F (v := (0 : Int32)) dX10_makeWay_1 (by decide) ?_
  refine pf_X10_51 F lyk_174 dX10_makeWay_2 ?_
  refine am_aload_n F 0 dX10_makeWay_5 rfl rfl ?_
  refine am_iload_n F 1 dX10_makeWay_6 rfl rfl ?_
  obtain ⟨v3, M2, h1, h⟩ := am_bE h
  refine am_callVi F [.int a1] lyk_174 (by decide) rfl cw_X10_173 (c_X10_isRobot l D E z a1 (am_s M 174 0 (0 : Int32)) v3 M2 h1) yn_X10_isRobot rfl ⟨Nat.le_of_ble_eq_true rfl, Nat.le_of_ble_eq_true rfl⟩ rfl rfl (Nat.le_of_ble_eq_true rfl) ⟨Nat.zero_le _, Nat.zero_le _⟩ dX10_makeWay_7 rfl ?_
  refine am_if_eq F (tgt := 20) dX10_makeWay_10 (by decide) (fun c60 => ?_) (fun c60 => ?_)
  · have h := (if_pos c60).symm.trans h
    refine am_aload_n F 0 dX10_makeWay_20 rfl rfl ?_
    refine am_iconst F (v := (1 : Int32)) dX10_makeWay_21 (by decide) ?_
    obtain ⟨v6, M5, h4, h⟩ := am_bE h
    refine am_callVi F [.int (1 : Int32)] lyk_174 (by decide) rfl cw_X10_164 (c_X10_fails l D E z (1 : Int32) M2 v6 M5 h4) yn_X10_fails rfl ⟨Nat.le_of_ble_eq_true rfl, Nat.le_of_ble_eq_true rfl⟩ rfl rfl (Nat.le_of_ble_eq_true rfl) ⟨Nat.zero_le _, Nat.zero_le _⟩ dX10_makeWay_22 rfl ?_
    exact am_iret F hr h dX10_makeWay_25
  · have h := (if_neg c60).symm.trans h
    refine am_iload_n F 2 dX10_makeWay_13 rfl rfl ?_
    obtain ⟨v9, M8, h7, h⟩ := am_bE h
    refine am_callSi F [.int a2] cw_X10_161 rfl (c_X10_isCell l D E z a2 M2 v9 M8 h7) yn_X10_isCell rfl ⟨Nat.le_of_ble_eq_true rfl, Nat.le_of_ble_eq_true rfl⟩ rfl rfl (Nat.le_of_ble_eq_true rfl) ⟨Nat.zero_le _, Nat.zero_le _⟩ dX10_makeWay_14 rfl ?_
    refine am_if_ne F (tgt := 26) dX10_makeWay_17 (by decide) (fun c59 => ?_) (fun c59 => ?_)
    · have h := (if_neg c59).symm.trans h
      refine am_aload_n F 0 dX10_makeWay_26 rfl rfl ?_
      refine am_iload_n F 1 dX10_makeWay_27 rfl rfl ?_
      obtain ⟨v12, M11, h10, h⟩ := am_bE h
      refine am_callVi F [.int a1] lyk_174 (by decide) rfl cw_X10_151 (c_X10_isInLift l D E z a1 M8 v12 M11 h10) yn_X10_isInLift rfl ⟨Nat.le_of_ble_eq_true rfl, Nat.le_of_ble_eq_true rfl⟩ rfl rfl (Nat.le_of_ble_eq_true rfl) ⟨Nat.zero_le _, Nat.zero_le _⟩ dX10_makeWay_28 rfl ?_
      refine am_if_ne F (tgt := 43) dX10_makeWay_31 (by decide) (fun c55 => ?_) (fun c55 => ?_)
      · have h := (if_neg c55).symm.trans h
        refine am_aload_n F 0 dX10_makeWay_43 rfl rfl ?_
        refine am_iconst F (v := (2 : Int32)) dX10_makeWay_44 (by decide) ?_
        obtain ⟨v15, M14, h13, h⟩ := am_bE h
        refine am_callVi F [.int (2 : Int32)] lyk_174 (by decide) rfl cw_X10_164 (c_X10_fails l D E z (2 : Int32) M11 v15 M14 h13) yn_X10_fails rfl ⟨Nat.le_of_ble_eq_true rfl, Nat.le_of_ble_eq_true rfl⟩ rfl rfl (Nat.le_of_ble_eq_true rfl) ⟨Nat.zero_le _, Nat.zero_le _⟩ dX10_makeWay_45 rfl ?_
        exact am_iret F hr h dX10_makeWay_48
      · have h := (if_pos c55).symm.trans h
        refine am_aload_n F 0 dX10_makeWay_34 rfl rfl ?_
        refine am_iload_n F 1 dX10_makeWay_35 rfl rfl ?_
        refine am_iload_n F 2 dX10_makeWay_36 rfl rfl ?_
        obtain ⟨v18, M17, h16, h⟩ := am_bE h
        refine am_callVi F [.int a1, .int a2] lyk_174 (by decide) rfl cw_X10_197 (c_X10_canPlan l D E z a1 a2 M11 v18 M17 h16) yn_X10_canPlan rfl ⟨Nat.le_of_ble_eq_true rfl, Nat.le_of_ble_eq_true rfl⟩ rfl rfl (Nat.le_of_ble_eq_true rfl) ⟨Nat.zero_le _, Nat.zero_le _⟩ dX10_makeWay_37 rfl ?_
        refine am_if_eq F (tgt := 49) dX10_makeWay_40 (by decide) (fun c54 => ?_) (fun c54 => ?_)
        · have h := (if_pos c54).symm.trans h
          refine am_iconst F (v := (0 : Int32)) dX10_makeWay_49 (by decide) ?_
          refine am_istore_n F [(3, .int (0 : Int32)), (0, .ref (z + 174)), (1, .int a1), (2, .int a2)] dX10_makeWay_50 rfl (by decide) rfl ?_
          obtain ⟨x44, M45, h46, h⟩ := am_bE h
          refine am_sub (lv' := [(0, .ref (z + 174)), (1, .int a1), (2, .int a2), (3, .int (0 : Int32))]) [1, 2, 3, 0] rfl (cl_X10_makeWay_L51 F a1 a2 am_fu (0 : Int32) M17 x44 M45 h46 ⟨fun c47 => ?_, fun c47 => ?_⟩)
          · have h := (if_pos c47).symm.trans h
            refine am_iload_n F 0 dX10_makeWay_109 rfl rfl ?_
            exact am_iret F hr h dX10_makeWay_110
          · have h := (if_neg (by rw [c47]; decide)).symm.trans h
            refine am_aload_n F 0 dX10_makeWay_123 rfl rfl ?_
            refine am_iconst F (v := (3 : Int32)) dX10_makeWay_124 (by decide) ?_
            obtain ⟨v50, M49, h48, h⟩ := am_bE h
            refine am_callVi F [.int (3 : Int32)] lyk_174 (by decide) rfl cw_X10_164 (c_X10_fails l D E z (3 : Int32) M45 v50 M49 h48) yn_X10_fails rfl ⟨Nat.le_of_ble_eq_true rfl, Nat.le_of_ble_eq_true rfl⟩ rfl rfl (Nat.le_of_ble_eq_true rfl) ⟨Nat.zero_le _, Nat.zero_le _⟩ dX10_makeWay_125 rfl ?_
            exact am_iret F hr h dX10_makeWay_128
        · have h := (if_neg c54).symm.trans h
          refine am_aload_n F 0 dX10_makeWay_43 rfl rfl ?_
          refine am_iconst F (v := (2 : Int32)) dX10_makeWay_44 (by decide) ?_
          obtain ⟨v53, M52, h51, h⟩ := am_bE h
          refine am_callVi F [.int (2 : Int32)] lyk_174 (by decide) rfl cw_X10_164 (c_X10_fails l D E z (2 : Int32) M17 v53 M52 h51) yn_X10_fails rfl ⟨Nat.le_of_ble_eq_true rfl, Nat.le_of_ble_eq_true rfl⟩ rfl rfl (Nat.le_of_ble_eq_true rfl) ⟨Nat.zero_le _, Nat.zero_le _⟩ dX10_makeWay_45 rfl ?_
          exact am_iret F hr h dX10_makeWay_48
    · have h := (if_pos c59).symm.trans h
      refine am_aload_n F 0 dX10_makeWay_20 rfl rfl ?_
      refine am_iconst F (v := (1 : Int32)) dX10_makeWay_21 (by decide) ?_
      obtain ⟨v58, M57, h56, h⟩ := am_bE h
      refine am_callVi F [.int (1 : Int32)] lyk_174 (by decide) rfl cw_X10_164 (c_X10_fails l D E z (1 : Int32) M8 v58 M57 h56) yn_X10_fails rfl ⟨Nat.le_of_ble_eq_true rfl, Nat.le_of_ble_eq_true rfl⟩ rfl rfl (Nat.le_of_ble_eq_true rfl) ⟨Nat.zero_le _, Nat.zero_le _⟩ dX10_makeWay_22 rfl ?_
      exact am_iret F hr h dX10_makeWay_25
/-! AisleSchedulerModel.planToCharger(I)I -/
abbrev rm_X10_planToCharger : Room := { frames := 10, cells := 0, slots := 0, locals := 239 }
theorem yn_X10_planToCharger : am_yn yX10_planToCharger 1 := ⟨⟨by decide +kernel, by decide +kernel⟩, by decide +kernel⟩
def g_X10_planToCharger_L40 (a1 : Int32) : Nat → Int32 → Int32 → Int32 → am_M → Option ((Int32) × am_M)
  | 0, _, _, _, _ => none
  | n + 1, a2, a3, a4, M => (if (40 : Int32) ≤ a4 then (some (a2, M)) else (am_ci ((8 : Int32) + a4) 406 (if (am_g M 175 ((8 : Int32) + a4).toNatClampNeg) = (2 : Int32) then (am_b (g_X10_canPlan a1 a4 M) (fun v10 M9 => (if v10 = (0 : Int32) then (g_X10_planToCharger_L40 a1 n a2 a3 (a4 + (1 : Int32)) M9) else (if a2 = (-1 : Int32) then (g_X10_planToCharger_L40 a1 n a4 (am_g M9 174 16) (a4 + (1 : Int32)) M9) else (if a3 ≤ (am_g M9 174 16) then (g_X10_planToCharger_L40 a1 n a2 a3 (a4 + (1 : Int32)) M9) else (g_X10_planToCharger_L40 a1 n a4 (am_g M9 174 16) (a4 + (1 : Int32)) M9)))))) else (g_X10_planToCharger_L40 a1 n a2 a3 (a4 + (1 : Int32)) M))))
set_option maxHeartbeats 4000000 in
set_option maxRecDepth 100000 in
theorem cl_X10_planToCharger_L40 {l : Launch} {p : Program} {e : Env} {s : State} {m : MethodId} {args : Array Value} {below : List Frame} {meth : Method} {c : Code} {Q : State → Prop} {D : va_G} {E : Nat → ClassId} {z : Nat} (F : am_F p s m args meth c cX10_planToCharger 5 RX10 D E z) (a1 : Int32) : ∀ (n : Nat) (a2 : Int32) (a3 : Int32) (a4 : Int32) (M : am_M) (x : Int32) (M1 : am_M), g_X10_planToCharger_L40 a1 n a2 a3 a4 M = some (x, M1) → (am_W p l e rm_X10_planToCharger s m args below meth c Q 5 D E z 0 0 M1 98 [(0, .ref (z + 174)), (1, .int a1), (2, .int x)] []) → am_W p l e rm_X10_planToCharger s m args below meth c Q 5 D E z 0 0 M 40 [(0, .ref (z + 174)), (1, .int a1), (2, .int a2), (3, .int a3), (4, .int a4)] [] := by
  intro n
  induction n with
  | zero => intro a2 a3 a4 M x M1 h K; cases h
  | succ n ih =>
    intro a2 a3 a4 M x M1 h K
    rw [g_X10_planToCharger_L40] at h
    refine am_iload F 4 dX10_planToCharger_40 rfl ?_
    refine am_bipush F (v := (40 : Int32)) dX10_planToCharger_42 (by decide) ?_
    refine am_icmp_ge F (tgt := 98) dX10_planToCharger_44 (by decide) (fun c15 => ?_) (fun c15 => ?_)
    · have h := (if_pos c15).symm.trans h
      cases h
      exact am_sub (lv' := [(0, .ref (z + 174)), (1, .int a1), (2, .int a2)]) [0, 1, 2] rfl (K)
    · have h := (if_neg c15).symm.trans h
      refine am_aload_n F 0 dX10_planToCharger_47 rfl rfl ?_
      refine gf_X10_7 F lyk_174 dX10_planToCharger_48 ?_
      refine am_bipush F (v := (8 : Int32)) dX10_planToCharger_51 (by decide) ?_
      refine am_iload F 4 dX10_planToCharger_53 rfl ?_
      refine am_iadd F dX10_planToCharger_55 ?_
      obtain ⟨q7, h⟩ := am_ciE h
      refine am_iald F lyk_175 q7 dX10_planToCharger_56 ?_
      refine am_iconst F (v := (2 : Int32)) dX10_planToCharger_57 (by decide) ?_
      refine am_icmp_ne F (tgt := 92) dX10_planToCharger_58 (by decide) (fun c14 => ?_) (fun c14 => ?_)
      · have h := (if_neg c14).symm.trans h
        refine am_iinc F [(4, .int (a4 + (1 : Int32))), (0, .ref (z + 174)), (1, .int a1), (2, .int a2), (3, .int a3)] 4 dX10_planToCharger_92 (by decide) rfl rfl rfl ?_
        refine am_goto F (tgt := 40) dX10_planToCharger_95 (by decide) ?_
        exact am_sub (lv' := [(0, .ref (z + 174)), (1, .int a1), (2, .int a2), (3, .int a3), (4, .int (a4 + (1 : Int32)))]) [1, 2, 3, 4, 0] rfl (ih a2 a3 (a4 + (1 : Int32)) M _ _ h K)
      · have h := (if_pos c14).symm.trans h
        refine am_aload_n F 0 dX10_planToCharger_61 rfl rfl ?_
        refine am_iload_n F 1 dX10_planToCharger_62 rfl rfl ?_
        refine am_iload F 4 dX10_planToCharger_63 rfl ?_
        obtain ⟨v10, M9, h8, h⟩ := am_bE h
        refine am_callVi F [.int a1, .int a4] lyk_174 (by decide) rfl cw_X10_197 (c_X10_canPlan l D E z a1 a4 M v10 M9 h8) yn_X10_canPlan rfl ⟨Nat.le_of_ble_eq_true rfl, Nat.le_of_ble_eq_true rfl⟩ rfl rfl (Nat.le_of_ble_eq_true rfl) ⟨Nat.zero_le _, Nat.zero_le _⟩ dX10_planToCharger_65 rfl ?_
        refine am_if_eq F (tgt := 92) dX10_planToCharger_68 (by decide) (fun c13 => ?_) (fun c13 => ?_)
        · have h := (if_pos c13).symm.trans h
          refine am_iinc F [(4, .int (a4 + (1 : Int32))), (0, .ref (z + 174)), (1, .int a1), (2, .int a2), (3, .int a3)] 4 dX10_planToCharger_92 (by decide) rfl rfl rfl ?_
          refine am_goto F (tgt := 40) dX10_planToCharger_95 (by decide) ?_
          exact am_sub (lv' := [(0, .ref (z + 174)), (1, .int a1), (2, .int a2), (3, .int a3), (4, .int (a4 + (1 : Int32)))]) [1, 2, 3, 4, 0] rfl (ih a2 a3 (a4 + (1 : Int32)) M9 _ _ h K)
        · have h := (if_neg c13).symm.trans h
          refine am_iload_n F 2 dX10_planToCharger_71 rfl rfl ?_
          refine am_iconst F (v := (-1 : Int32)) dX10_planToCharger_72 (by decide) ?_
          refine am_icmp_eq F (tgt := 84) dX10_planToCharger_73 (by decide) (fun c12 => ?_) (fun c12 => ?_)
          · have h := (if_pos c12).symm.trans h
            refine am_iload F 4 dX10_planToCharger_84 rfl ?_
            refine am_istore_n F [(2, .int a4), (0, .ref (z + 174)), (1, .int a1), (3, .int a3), (4, .int a4)] dX10_planToCharger_86 rfl (by decide) rfl ?_
            refine am_aload_n F 1 dX10_planToCharger_87 rfl rfl ?_
            refine gf_X10_129 F lyk_174 dX10_planToCharger_88 ?_
            refine am_istore_n F [(3, .int (am_g M9 174 16)), (2, .int a4), (0, .ref (z + 174)), (1, .int a1), (4, .int a4)] dX10_planToCharger_91 rfl (by decide) rfl ?_
            refine am_iinc F [(4, .int (a4 + (1 : Int32))), (3, .int (am_g M9 174 16)), (2, .int a4), (0, .ref (z + 174)), (1, .int a1)] 4 dX10_planToCharger_92 (by decide) rfl rfl rfl ?_
            refine am_goto F (tgt := 40) dX10_planToCharger_95 (by decide) ?_
            exact am_sub (lv' := [(0, .ref (z + 174)), (1, .int a1), (2, .int a4), (3, .int (am_g M9 174 16)), (4, .int (a4 + (1 : Int32)))]) [3, 4, 2, 1, 0] rfl (ih a4 (am_g M9 174 16) (a4 + (1 : Int32)) M9 _ _ h K)
          · have h := (if_neg c12).symm.trans h
            refine am_aload_n F 0 dX10_planToCharger_76 rfl rfl ?_
            refine gf_X10_129 F lyk_174 dX10_planToCharger_77 ?_
            refine am_iload_n F 3 dX10_planToCharger_80 rfl rfl ?_
            refine am_icmp_ge F (tgt := 92) dX10_planToCharger_81 (by decide) (fun c11 => ?_) (fun c11 => ?_)
            · have h := (if_pos c11).symm.trans h
              refine am_iinc F [(4, .int (a4 + (1 : Int32))), (0, .ref (z + 174)), (1, .int a1), (2, .int a2), (3, .int a3)] 4 dX10_planToCharger_92 (by decide) rfl rfl rfl ?_
              refine am_goto F (tgt := 40) dX10_planToCharger_95 (by decide) ?_
              exact am_sub (lv' := [(0, .ref (z + 174)), (1, .int a1), (2, .int a2), (3, .int a3), (4, .int (a4 + (1 : Int32)))]) [1, 2, 3, 4, 0] rfl (ih a2 a3 (a4 + (1 : Int32)) M9 _ _ h K)
            · have h := (if_neg c11).symm.trans h
              refine am_iload F 4 dX10_planToCharger_84 rfl ?_
              refine am_istore_n F [(2, .int a4), (0, .ref (z + 174)), (1, .int a1), (3, .int a3), (4, .int a4)] dX10_planToCharger_86 rfl (by decide) rfl ?_
              refine am_aload_n F 1 dX10_planToCharger_87 rfl rfl ?_
              refine gf_X10_129 F lyk_174 dX10_planToCharger_88 ?_
              refine am_istore_n F [(3, .int (am_g M9 174 16)), (2, .int a4), (0, .ref (z + 174)), (1, .int a1), (4, .int a4)] dX10_planToCharger_91 rfl (by decide) rfl ?_
              refine am_iinc F [(4, .int (a4 + (1 : Int32))), (3, .int (am_g M9 174 16)), (2, .int a4), (0, .ref (z + 174)), (1, .int a1)] 4 dX10_planToCharger_92 (by decide) rfl rfl rfl ?_
              refine am_goto F (tgt := 40) dX10_planToCharger_95 (by decide) ?_
              exact am_sub (lv' := [(0, .ref (z + 174)), (1, .int a1), (2, .int a4), (3, .int (am_g M9 174 16)), (4, .int (a4 + (1 : Int32)))]) [3, 4, 2, 1, 0] rfl (ih a4 (am_g M9 174 16) (a4 + (1 : Int32)) M9 _ _ h K)
def g_X10_planToCharger (a1 : Int32) (M : am_M) : Option (Int32 × am_M) := (am_b (g_X10_isRobot a1 (am_s M 174 0 (0 : Int32))) (fun v3 M2 => (if v3 = (0 : Int32) then (am_b (g_X10_fails (1 : Int32) M2) (fun v32 M31 => (some (v32, M31)))) else (am_b (g_X10_isInLift a1 M2) (fun v6 M5 => (if v6 = (0 : Int32) then (am_b (g_X10_planToCharger_L40 a1 am_fu (-1 : Int32) (0 : Int32) (0 : Int32) M5) (fun x16 M17 => (if x16 = (-1 : Int32) then (am_b (g_X10_fails (3 : Int32) M17) (fun v24 M23 => (some (v24, M23)))) else (am_b (g_X10_plan a1 x16 M17) (fun v21 M20 => (some (x16, M20))))))) else (am_b (g_X10_fails (2 : Int32) M5) (fun v28 M27 => (some (v28, M27))))))))))
set_option maxHeartbeats 4000000 in
set_option maxRecDepth 100000 in
theorem c_X10_planToCharger (l : Launch) (D : va_G) (E : Nat → ClassId) (z : Nat) (a1 : Int32) (M : am_M) (r0 : Int32) (M1 : am_M) (h : g_X10_planToCharger a1 M = some (r0, M1)) : am_Mi l yX10_planToCharger cX10_planToCharger 5 (some .int) rm_X10_planToCharger D E z [.ref (z + 174), .int a1] M r0 M1 := by
  unfold g_X10_planToCharger at h
  refine am_of (own := RX10) (by decide +kernel) rfl (by exact Nat.le_of_ble_eq_true rfl) ?_
  intro p e s m args below meth c F hr
  show am_W p l e rm_X10_planToCharger s m args below meth c _ 5 D E z 0 0 M 0 [(0, .ref (z + 174)), (1, .int a1)] []
  refine am_aload_n F 0 dX10_planToCharger_0 rfl rfl ?_
  refine am_iconst F (v := (0 : Int32)) dX10_planToCharger_1 (by decide) ?_
  refine pf_X10_51 F lyk_174 dX10_planToCharger_2 ?_
  refine am_aload_n F 0 dX10_planToCharger_5 rfl rfl ?_
  refine am_iload_n F 1 dX10_planToCharger_6 rfl rfl ?_
  obtain ⟨v3, M2, h1, h⟩ := am_bE h
  refine am_callVi F [.int a1] lyk_174 (by decide) rfl cw_X10_173 (c_X10_isRobot l D E z a1 (am_s M 174 0 (0 : Int32)) v3 M2 h1) yn_X10_isRobot rfl ⟨Nat.le_of_ble_eq_true rfl, Nat.le_of_ble_eq_true rfl⟩ rfl rfl (Nat.le_of_ble_eq_true rfl) ⟨Nat.zero_le _, Nat.zero_le _⟩ dX10_planToCharger_7 rfl ?_
  refine am_if_ne F (tgt := 19) dX10_planToCharger_10 (by decide) (fun c33 => ?_) (fun c33 => ?_)
  · have h := (if_neg c33).symm.trans h
    refine am_aload_n F 0 dX10_planToCharger_19 rfl rfl ?_
    refine am_iload_n F 1 dX10_planToCharger_20 rfl rfl ?_
    obtain ⟨v6, M5, h4, h⟩ := am_bE h
    refine am_callVi F [.int a1] lyk_174 (by decide) rfl cw_X10_151 (c_X10_isInLift l D E z a1 M2 v6 M5 h4) yn_X10_isInLift rfl ⟨Nat.le_of_ble_eq_true rfl, Nat.le_of_ble_eq_true rfl⟩ rfl rfl (Nat.le_of_ble_eq_true rfl) ⟨Nat.zero_le _, Nat.zero_le _⟩ dX10_planToCharger_21 rfl ?_
    refine am_if_eq F (tgt := 33) dX10_planToCharger_24 (by decide) (fun c29 => ?_) (fun c29 => ?_)
    · have h := (if_pos c29).symm.trans h
      refine am_iconst F (v := (-1 : Int32)) dX10_planToCharger_33 (by decide) ?_
      refine am_istore_n F [(2, .int (-1 : Int32)), (0, .ref (z + 174)), (1, .int a1)] dX10_planToCharger_34 rfl (by decide) rfl ?_
      refine am_iconst F (v := (0 : Int32)) dX10_planToCharger_35 (by decide) ?_
      refine am_istore_n F [(3, .int (0 : Int32)), (2, .int (-1 : Int32)), (0, .ref (z + 174)), (1, .int a1)] dX10_planToCharger_36 rfl (by decide) rfl ?_
      refine am_iconst F (v := (0 : Int32)) dX10_planToCharger_37 (by decide) ?_
      refine am_istore F [(4, .int (0 : Int32)), (3, .int (0 : Int32)), (2, .int (-1 : Int32)), (0, .ref (z + 174)), (1, .int a1)] dX10_planToCharger_38 (by decide) rfl ?_
      obtain ⟨x16, M17, h18, h⟩ := am_bE h
      refine am_sub (lv' := [(0, .ref (z + 174)), (1, .int a1), (2, .int (-1 : Int32)), (3, .int (0 : Int32)), (4, .int (0 : Int32))]) [3, 4, 2, 1, 0] rfl (cl_X10_planToCharger_L40 F a1 am_fu (-1 : Int32) (0 : Int32) (0 : Int32) M5 x16 M17 h18 ?_)
      refine am_iload_n F 2 dX10_planToCharger_98 rfl rfl ?_
      refine am_iconst F (v := (-1 : Int32)) dX10_planToCharger_99 (by decide) ?_
      refine am_icmp_ne F (tgt := 109) dX10_planToCharger_100 (by decide) (fun c25 => ?_) (fun c25 => ?_)
      · have h := (if_neg c25).symm.trans h
        refine am_aload_n F 0 dX10_planToCharger_109 rfl rfl ?_
        refine am_iload_n F 1 dX10_planToCharger_110 rfl rfl ?_
        refine am_iload_n F 2 dX10_planToCharger_111 rfl rfl ?_
        obtain ⟨v21, M20, h19, h⟩ := am_bE h
        refine am_callVi F [.int a1, .int x16] lyk_174 (by decide) rfl cw_X10_206 (c_X10_plan l D E z a1 x16 M17 v21 M20 h19) yn_X10_plan rfl ⟨Nat.le_of_ble_eq_true rfl, Nat.le_of_ble_eq_true rfl⟩ rfl rfl (Nat.le_of_ble_eq_true rfl) ⟨Nat.zero_le _, Nat.zero_le _⟩ dX10_planToCharger_112 rfl ?_
        refine am_pop F dX10_planToCharger_115 rfl ?_
        refine am_iload_n F 2 dX10_planToCharger_116 rfl rfl ?_
        exact am_iret F hr h dX10_planToCharger_117
      · have h := (if_pos c25).symm.trans h
        refine am_aload_n F 0 dX10_planToCharger_103 rfl rfl ?_
        refine am_iconst F (v := (3 : Int32)) dX10_planToCharger_104 (by decide) ?_
        obtain ⟨v24, M23, h22, h⟩ := am_bE h
        refine am_callVi F [.int (3 : Int32)] lyk_174 (by decide) rfl cw_X10_164 (c_X10_fails l D E z (3 : Int32) M17 v24 M23 h22) yn_X10_fails rfl ⟨Nat.le_of_ble_eq_true rfl, Nat.le_of_ble_eq_true rfl⟩ rfl rfl (Nat.le_of_ble_eq_true rfl) ⟨Nat.zero_le _, Nat.zero_le _⟩ dX10_planToCharger_105 rfl ?_
        exact am_iret F hr h dX10_planToCharger_108
    · have h := (if_neg c29).symm.trans h
      refine am_aload_n F 0 dX10_planToCharger_27 rfl rfl ?_
      refine am_iconst F (v := (2 : Int32)) dX10_planToCharger_28 (by decide) ?_
      obtain ⟨v28, M27, h26, h⟩ := am_bE h
      refine am_callVi F [.int (2 : Int32)] lyk_174 (by decide) rfl cw_X10_164 (c_X10_fails l D E z (2 : Int32) M5 v28 M27 h26) yn_X10_fails rfl ⟨Nat.le_of_ble_eq_true rfl, Nat.le_of_ble_eq_true rfl⟩ rfl rfl (Nat.le_of_ble_eq_true rfl) ⟨Nat.zero_le _, Nat.zero_le _⟩ dX10_planToCharger_29 rfl ?_
      exact am_iret F hr h dX10_planToCharger_32
  · have h := (if_pos c33).symm.trans h
    refine am_aload_n F 0 dX10_planToCharger_13 rfl rfl ?_
    refine am_iconst F (v := (1 : Int32)) dX10_planToCharger_14 (by decide) ?_
    obtain ⟨v32, M31, h30, h⟩ := am_bE h
    refine am_callVi F [.int (1 : Int32)] lyk_174 (by decide) rfl cw_X10_164 (c_X10_fails l D E z (1 : Int32) M2 v32 M31 h30) yn_X10_fails rfl ⟨Nat.le_of_ble_eq_true rfl, Nat.le_of_ble_eq_true rfl⟩ rfl rfl (Nat.le_of_ble_eq_true rfl) ⟨Nat.zero_le _, Nat.zero_le _⟩ dX10_planToCharger_15 rfl ?_
    exact am_iret F hr h dX10_planToCharger_18
