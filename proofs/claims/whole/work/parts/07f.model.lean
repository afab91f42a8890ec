/-! printed by wip/whole/drive.py -/
/-! AisleSchedulerModel.read()I -/
abbrev rm_X10_read : Room := { frames := 9, cells := 0, slots := 0, locals := 209 }
theorem yn_X10_read : am_yn yX10_read 0 := ⟨⟨by decide +kernel, by decide +kernel⟩, by decide +kernel⟩
def g_X10_read_L33  : Nat → Int32 → am_M → Option ((Unit) × am_M)
  | 0, _, _ => none
  | n + 1, a1, M => (if (406 : Int32) ≤ a1 then (some ((), M)) else (am_ci a1 406 (am_ci a1 406 (g_X10_read_L33  n (a1 + (1 : Int32)) (am_s M 177 a1.toNatClampNeg (am_g M 175 a1.toNatClampNeg))))))
set_option maxHeartbeats 4000000 in
set_option maxRecDepth 100000 in
theorem cl_X10_read_L33 {l : Launch} {p : Program} {e : Env} {s : State} {m : MethodId} {args : Array Value} {below : List Frame} {meth : Method} {c : Code} {Q : State → Prop} {D : va_G} {E : Nat → ClassId} {z : Nat} (F : am_F p s m args meth c cX10_read 4 RX10 D E z)  : ∀ (n : Nat) (a1 : Int32) (M : am_M) (x : Unit) (M1 : am_M), g_X10_read_L33  n a1 M = some (x, M1) → (am_W p l e rm_X10_read s m args below meth c Q 4 D E z 0 0 M1 58 [(0, .ref (z + 174))] []) → am_W p l e rm_X10_read s m args below meth c Q 4 D E z 0 0 M 33 [(0, .ref (z + 174)), (1, .int a1)] [] := by
  intro n
  induction n with
  | zero => intro a1 M x M1 h K; cases h
  | succ n ih =>
    intro a1 M x M1 h K
    rw [g_X10_read_L33] at h
    refine am_iload_n F 1 dX10_read_33 rfl rfl ?_
    refine am_sipush F (v := (406 : Int32)) dX10_read_34 (by decide) ?_
    refine am_icmp_ge F (tgt := 58) dX10_read_37 (by decide) (fun c6 => ?_) (fun c6 => ?_)
    · have h := (if_pos c6).symm.trans h
      cases h
      exact am_sub (lv' := [(0, .ref (z + 174))]) [0] rfl (K)
    · have h := (if_neg c6).symm.trans h
      refine am_aload_n F 0 dX10_read_40 rfl rfl ?_
      refine gf_X10_16 F lyk_174 dX10_read_41 ?_
      refine am_iload_n F 1 dX10_read_44 rfl rfl ?_
      refine am_aload_n F 0 dX10_read_45 rfl rfl ?_
      refine gf_X10_7 F lyk_174 dX10_read_46 ?_
      refine am_iload_n F 1 dX10_read_49 rfl rfl ?_
      obtain ⟨q4, h⟩ := am_ciE h
      refine am_iald F lyk_175 q4 dX10_read_50 ?_
      obtain ⟨q5, h⟩ := am_ciE h
      refine am_iast F lyk_177 q5 dX10_read_51 ?_
      refine am_iinc F [(1, .int (a1 + (1 : Int32))), (0, .ref (z + 174))] 1 dX10_read_52 (by decide) rfl rfl rfl ?_
      refine am_goto F (tgt := 33) dX10_read_55 (by decide) ?_
      exact am_sub (lv' := [(0, .ref (z + 174)), (1, .int (a1 + (1 : Int32)))]) [1, 0] rfl (ih (a1 + (1 : Int32)) (am_s M 177 a1.toNatClampNeg (am_g M 175 a1.toNatClampNeg)) _ _ h K)
def g_X10_read_L67  : Nat → Int32 → Int32 → am_M → Option ((Int32 × Int32) × am_M)
  | 0, _, _, _ => none
  | n + 1, a1, a2, M => (if a2 = (0 : Int32) then (some ((a1, a2), M)) else (if (am_g M 174 7) ≤ (am_g M 174 19) then (some ((a1, a2), M)) else (am_b (g_X10_entry (1 : Int32) M) (fun v12 M11 => (g_X10_read_L67  n (a1 + (1 : Int32)) v12 M11)))))
set_option maxHeartbeats 4000000 in
set_option maxRecDepth 100000 in
theorem cl_X10_read_L67 {l : Launch} {p : Program} {e : Env} {s : State} {m : MethodId} {args : Array Value} {below : List Frame} {meth : Method} {c : Code} {Q : State → Prop} {D : va_G} {E : Nat → ClassId} {z : Nat} (F : am_F p s m args meth c cX10_read 4 RX10 D E z)  : ∀ (n : Nat) (a1 : Int32) (a2 : Int32) (M : am_M) (x : Int32 × Int32) (M1 : am_M), g_X10_read_L67  n a1 a2 M = some (x, M1) → (am_W p l e rm_X10_read s m args below meth c Q 4 D E z 0 0 M1 94 [(0, .ref (z + 174)), (1, .int x.1), (2, .int x.2)] []) → am_W p l e rm_X10_read s m args below meth c Q 4 D E z 0 0 M 67 [(0, .ref (z + 174)), (1, .int a1), (2, .int a2)] [] := by
  intro n
  induction n with
  | zero => intro a1 a2 M x M1 h K; cases h
  | succ n ih =>
    intro a1 a2 M x M1 h K
    rw [g_X10_read_L67] at h
    refine am_iload_n F 2 dX10_read_67 rfl rfl ?_
    refine am_if_eq F (tgt := 94) dX10_read_68 (by decide) (fun c14 => ?_) (fun c14 => ?_)
    · have h := (if_pos c14).symm.trans h
      cases h
      exact am_sub (lv' := [(0, .ref (z + 174)), (1, .int a1), (2, .int a2)]) [0, 1, 2] rfl (K)
    · have h := (if_neg c14).symm.trans h
      refine am_aload_n F 0 dX10_read_71 rfl rfl ?_
      refine gf_X10_270 F lyk_174 dX10_read_72 ?_
      refine am_aload_n F 0 dX10_read_75 rfl rfl ?_
      refine gf_X10_267 F lyk_174 dX10_read_76 ?_
      refine am_icmp_ge F (tgt := 94) dX10_read_79 (by decide) (fun c13 => ?_) (fun c13 => ?_)
      · have h := (if_pos c13).symm.trans h
        cases h
        exact am_sub (lv' := [(0, .ref (z + 174)), (1, .int a1), (2, .int a2)]) [0, 1, 2] rfl (K)
      · have h := (if_neg c13).symm.trans h
        refine am_aload_n F 0 dX10_read_82 rfl rfl ?_
        refine am_iconst F (v := (1 : Int32)) dX10_read_83 (by decide) ?_
        obtain ⟨v12, M11, h10, h⟩ := am_bE h
        refine am_callVi F [.int (1 : Int32)] lyk_174 (by decide) rfl cw_X10_295 (c_X10_entry l D E z (1 : Int32) M v12 M11 h10) yn_X10_entry rfl ⟨Nat.le_of_ble_eq_true rfl, Nat.le_of_ble_eq_true rfl⟩ rfl rfl (Nat.le_of_ble_eq_true rfl) ⟨Nat.zero_le _, Nat.zero_le _⟩ dX10_read_84 rfl ?_
        refine am_istore_n F [(2, .int v12), (0, .ref (z + 174)), (1, .int a1)] dX10_read_87 rfl (by decide) rfl ?_
        refine am_iinc F [(1, .int (a1 + (1 : Int32))), (2, .int v12), (0, .ref (z + 174))] 2 dX10_read_88 (by decide) rfl rfl rfl ?_
        refine am_goto F (tgt := 67) dX10_read_91 (by decide) ?_
        exact am_sub (lv' := [(0, .ref (z + 174)), (1, .int (a1 + (1 : Int32))), (2, .int v12)]) [2, 0, 1] rfl (ih (a1 + (1 : Int32)) v12 M11 _ _ h K)
def g_X10_read_L112  : Nat → Int32 → am_M → Option ((Unit) × am_M)
  | 0, _, _ => none
  | n + 1, a3, M => (if (406 : Int32) ≤ a3 then (some ((), M)) else (am_ci a3 406 (am_ci a3 406 (g_X10_read_L112  n (a3 + (1 : Int32)) (am_s M 175 a3.toNatClampNeg (am_g M 177 a3.toNatClampNeg))))))
set_option maxHeartbeats 4000000 in
set_option maxRecDepth 100000 in
theorem cl_X10_read_L112 {l : Launch} {p : Program} {e : Env} {s : State} {m : MethodId} {args : Array Value} {below : List Frame} {meth : Method} {c : Code} {Q : State → Prop} {D : va_G} {E : Nat → ClassId} {z : Nat} (F : am_F p s m args meth c cX10_read 4 RX10 D E z)  : ∀ (n : Nat) (a3 : Int32) (M : am_M) (x : Unit) (M1 : am_M), g_X10_read_L112  n a3 M = some (x, M1) → (am_W p l e rm_X10_read s m args below meth c Q 4 D E z 0 0 M1 137 [(0, .ref (z + 174))] []) → am_W p l e rm_X10_read s m args below meth c Q 4 D E z 0 0 M 112 [(0, .ref (z + 174)), (3, .int a3)] [] := by
  intro n
  induction n with
  | zero => intro a3 M x M1 h K; cases h
  | succ n ih =>
    intro a3 M x M1 h K
    rw [g_X10_read_L112] at h
    refine am_iload_n F 1 dX10_read_112 rfl rfl ?_
    refine am_sipush F (v := (406 : Int32)) dX10_read_113 (by decide) ?_
    refine am_icmp_ge F (tgt := 137) dX10_read_116 (by decide) (fun c20 => ?_) (fun c20 => ?_)
    · have h := (if_pos c20).symm.trans h
      cases h
      exact am_sub (lv' := [(0, .ref (z + 174))]) [0] rfl (K)
    · have h := (if_neg c20).symm.trans h
      refine am_aload_n F 0 dX10_read_119 rfl rfl ?_
      refine gf_X10_7 F lyk_174 dX10_read_120 ?_
      refine am_iload_n F 1 dX10_read_123 rfl rfl ?_
      refine am_aload_n F 0 dX10_read_124 rfl rfl ?_
      refine gf_X10_16 F lyk_174 dX10_read_125 ?_
      refine am_iload_n F 1 dX10_read_128 rfl rfl ?_
      obtain ⟨q18, h⟩ := am_ciE h
      refine am_iald F lyk_177 q18 dX10_read_129 ?_
      obtain ⟨q19, h⟩ := am_ciE h
      refine am_iast F lyk_175 q19 dX10_read_130 ?_
      refine am_iinc F [(3, .int (a3 + (1 : Int32))), (0, .ref (z + 174))] 1 dX10_read_131 (by decide) rfl rfl rfl ?_
      refine am_goto F (tgt := 112) dX10_read_134 (by decide) ?_
      exact am_sub (lv' := [(0, .ref (z + 174)), (3, .int (a3 + (1 : Int32)))]) [1, 0] rfl (ih (a3 + (1 : Int32)) (am_s M 175 a3.toNatClampNeg (am_g M 177 a3.toNatClampNeg)) _ _ h K)
def g_X10_read_J94 (a1 : Int32) (a2 : Int32) (M : am_M) : Option (Int32 × am_M) := (if a2 = (0 : Int32) then (am_b (g_X10_read_L112  am_fu (0 : Int32) (am_s (am_s M 174 7 (0 : Int32)) 174 0 (0 : Int32))) (fun x21 M22 => (am_b (g_X10_fails (2 : Int32) M22) (fun v26 M25 => (some (v26, M25)))))) else (some (a1, (am_s (am_s M 174 7 (0 : Int32)) 174 0 (0 : Int32)))))
set_option maxHeartbeats 4000000 in
set_option maxRecDepth 100000 in
theorem cj_X10_read_J94 {l : Launch} {p : Program} {e : Env} {s : State} {m : MethodId} {args : Array Value} {below : List Frame} {meth : Method} {c : Code} {D : va_G} {E : Nat → ClassId} {z : Nat} (F : am_F p s m args meth c cX10_read 4 RX10 D E z) (hr : meth.sig.returnType = (some .int)) (a1 : Int32) (a2 : Int32) (M : am_M) (r0 : Int32) (M1 : am_M) (h : g_X10_read_J94 a1 a2 M = some (r0, M1)) : am_W p l e rm_X10_read s m args below meth c (MQ below (va_Qi (fun (r9 : Int32) (u : am_M) => r9 = r0 ∧ u = M1) (am_BQ z E D) (fun q => z ≤ q)) args s 0 0 (fun q => z ≤ q)) 4 D E z 0 0 M 94 [(0, .ref (z + 174)), (1, .int a1), (2, .int a2)] [] := by
  unfold g_X10_read_J94 at h
  refine am_aload_n F 0 dX10_read_94 rfl rfl ?_
  refine am_iconst F (v := (0 : Int32)) dX10_read_95 (by decide) ?_
  refine pf_X10_267 F lyk_174 dX10_read_96 ?_
  refine am_aload_n F 0 dX10_read_99 rfl rfl ?_
  refine am_iconst F (v := (0 : Int32)) dX10_read_100 (by decide) ?_
  refine pf_X10_51 F lyk_174 dX10_read_101 ?_
  refine am_iload_n F 2 dX10_read_104 rfl rfl ?_
  refine am_if_eq F (tgt := 110) dX10_read_105 (by decide) (fun c27 => ?_) (fun c27 => ?_)
  · have h := (if_pos c27).symm.trans h
    refine am_iconst F (v := (0 : Int32)) dX10_read_110 (by decide) ?_
    refine am_istore_n F [(3, .int (0 : Int32)), (0, .ref (z + 174)), (1, .int a1), (2, .int a2)] dX10_read_111 rfl (by decide) rfl ?_
    obtain ⟨x21, M22, h23, h⟩ := am_bE h
    refine am_sub (lv' := [(0, .ref (z + 174)), (3, .int (0 : Int32))]) [1, 0] rfl (cl_X10_read_L112 F  am_fu (0 : Int32) (am_s (am_s M 174 7 (0 : Int32)) 174 0 (0 : Int32)) x21 M22 h23 ?_)
    refine am_aload_n F 0 dX10_read_137 rfl rfl ?_
    refine am_iconst F (v := (2 : Int32)) dX10_read_138 (by decide) ?_
    obtain ⟨v26, M25, h24, h⟩ := am_bE h
    refine am_callVi F [.int (2 : Int32)] lyk_174 (by decide) rfl cw_X10_164 (c_X10_fails l D E z (2 : Int32) M22 v26 M25 h24) yn_X10_fails rfl ⟨Nat.le_of_ble_eq_true rfl, Nat.le_of_ble_eq_true rfl⟩ rfl rfl (Nat.le_of_ble_eq_true rfl) ⟨Nat.zero_le _, Nat.zero_le _⟩ dX10_read_139 rfl ?_
    exact am_iret F hr h dX10_read_142
  · have h := (if_neg c27).symm.trans h
    refine am_iload_n F 1 dX10_read_108 rfl rfl ?_
    exact am_iret F hr h dX10_read_109
def g_X10_read  (M : am_M) : Option (Int32 × am_M) := (am_b (g_X10_isText  (am_s M 174 0 (0 : Int32))) (fun v3 M2 => (if v3 = (0 : Int32) then (am_b (g_X10_fails (1 : Int32) (am_s (am_s M2 174 8 (am_g M2 174 19)) 174 7 (0 : Int32))) (fun v30 M29 => (some (v30, M29)))) else (am_b (g_X10_read_L33  am_fu (0 : Int32) M2) (fun x7 M8 => (am_b (g_X10_read_L67  am_fu (0 : Int32) (1 : Int32) (am_s M8 174 19 (0 : Int32))) (fun x15 M16 => (g_X10_read_J94 x15.1 x15.2 M16))))))))
set_option maxHeartbeats 4000000 in
set_option maxRecDepth 100000 in
theorem c_X10_read (l : Launch) (D : va_G) (E : Nat → ClassId) (z : Nat)  (M : am_M) (r0 : Int32) (M1 : am_M) (h : g_X10_read  M = some (r0, M1)) : am_Mi l yX10_read cX10_read 4 (some .int) rm_X10_read D E z [.ref (z + 174)] M r0 M1 := by
  unfold g_X10_read at h
  refine am_of (own := RX10) (by decide +kernel) rfl (by exact Nat.le_of_ble_eq_true rfl) ?_
  intro p e s m args below meth c F hr
  show am_W p l e rm_X10_read s m args below meth c _ 4 D E z 0 0 M 0 [(0, .ref (z + 174))] []
  refine am_aload_n F 0 dX10_read_0 rfl rfl ?_
  refine am_iconst F (v := (0 : Int32)) dX10_read_1 (by decide) ?_
  refine pf_X10_51 F lyk_174 dX10_read_2 ?_
  refine am_aload_n F 0 dX10_read_5 rfl rfl ?_
  obtain ⟨v3, M2, h1, h⟩ := am_bE h
  refine am_callVi F [] lyk_174 (by decide) rfl cw_X10_299 (c_X10_isText l D E z  (am_s M 174 0 (0 : Int32)) v3 M2 h1) yn_X10_isText rfl ⟨Nat.le_of_ble_eq_true rfl, Nat.le_of_ble_eq_true rfl⟩ rfl rfl (Nat.le_of_ble_eq_true rfl) ⟨Nat.zero_le _, Nat.zero_le _⟩ dX10_read_6 rfl ?_
  refine am_if_ne F (tgt := 31) dX10_read_9 (by decide) (fun c31 => ?_) (fun c31 => ?_)
  · have h := (if_neg c31).symm.trans h
    refine am_iconst F (v := (0 : Int32)) dX10_read_31 (by decide) ?_
    refine am_istore_n F [(1, .int (0 : Int32)), (0, .ref (z + 174))] dX10_read_32 rfl (by decide) rfl ?_
    obtain ⟨x7, M8, h9, h⟩ := am_bE h
    refine am_sub (lv' := [(0, .ref (z + 174)), (1, .int (0 : Int32))]) [1, 0] rfl (cl_X10_read_L33 F  am_fu (0 : Int32) M2 x7 M8 h9 ?_)
    refine am_aload_n F 0 dX10_read_58 rfl rfl ?_
    refine am_iconst F (v := (0 : Int32)) dX10_read_59 (by decide) ?_
    refine pf_X10_270 F lyk_174 dX10_read_60 ?_
    refine am_iconst F (v := (0 : Int32)) dX10_read_63 (by decide) ?_
    refine am_istore_n F [(1, .int (0 : Int32)), (0, .ref (z + 174))] dX10_read_64 rfl (by decide) rfl ?_
    refine am_iconst F (v := (1 : Int32)) dX10_read_65 (by decide) ?_
    refine am_istore_n F [(2, .int (1 : Int32)), (1, .int (0 : Int32)), (0, .ref (z + 174))] dX10_read_66 rfl (by decide) rfl ?_
    obtain ⟨x15, M16, h17, h⟩ := am_bE h
    refine am_sub (lv' := [(0, .ref (z + 174)), (1, .int (0 : Int32)), (2, .int (1 : Int32))]) [2, 1, 0] rfl (cl_X10_read_L67 F  am_fu (0 : Int32) (1 : Int32) (am_s M8 174 19 (0 : Int32)) x15 M16 h17 ?_)
    exact am_sub (lv' := [(0, .ref (z + 174)), (1, .int x15.1), (2, .int x15.2)]) [0, 1, 2] rfl (cj_X10_read_J94 F hr x15.1 x15.2 M16 r0 M1 h)
  · have h := (if_pos c31).symm.trans h
    refine am_aload_n F 0 dX10_read_12 rfl rfl ?_
    refine am_aload_n F 0 dX10_read_13 rfl rfl ?_
    refine gf_X10_270 F lyk_174 dX10_read_14 ?_
    refine pf_X10_25 F lyk_174 dX10_read_17 ?_
    refine am_aload_n F 0 dX10_read_20 rfl rfl ?_
    refine am_iconst F (v := (0 : Int32)) dX10_read_21 (by decide) ?_
    refine pf_X10_267 F lyk_174 dX10_read_22 ?_
    refine am_aload_n F 0 dX10_read_25 rfl rfl ?_
    refine am_iconst F (v := (1 : Int32)) dX10_read_26 (by decide) ?_
    obtain ⟨v30, M29, h28, h⟩ := am_bE h
    refine am_callVi F [.int (1 : Int32)] lyk_174 (by decide) rfl cw_X10_164 (c_X10_fails l D E z (1 : Int32) (am_s (am_s M2 174 8 (am_g M2 174 19)) 174 7 (0 : Int32)) v30 M29 h28) yn_X10_fails rfl ⟨Nat.le_of_ble_eq_true rfl, Nat.le_of_ble_eq_true rfl⟩ rfl rfl (Nat.le_of_ble_eq_true rfl) ⟨Nat.zero_le _, Nat.zero_le _⟩ dX10_read_27 rfl ?_
    exact am_iret F hr h dX10_read_30
/-! AisleSchedulerModel.errorPosition()I -/
abbrev rm_X10_errorPosition : Room := { frames := 2, cells := 0, slots := 0, locals := 45 }
theorem yn_X10_errorPosition : am_yn yX10_errorPosition 0 := ⟨⟨by decide +kernel, by decide +kernel⟩, by decide +kernel⟩
def g_X10_errorPosition  (M : am_M) : Option (Int32 × am_M) := (if (am_g (am_s M 174 0 (0 : Int32)) 174 8) = (-1 : Int32) then (am_b (g_X10_fails (1 : Int32) (am_s M 174 0 (0 : Int32))) (fun v3 M2 => (some (v3, M2)))) else (some ((am_g (am_s M 174 0 (0 : Int32)) 174 8), (am_s M 174 0 (0 : Int32)))))
set_option maxHeartbeats 4000000 in
set_option maxRecDepth 100000 in
theorem c_X10_errorPosition (l : Launch) (D : va_G) (E : Nat → ClassId) (z : Nat)  (M : am_M) (r0 : Int32) (M1 : am_M) (h : g_X10_errorPosition  M = some (r0, M1)) : am_Mi l yX10_errorPosition cX10_errorPosition 1 (some .int) rm_X10_errorPosition D E z [.ref (z + 174)] M r0 M1 := by
  unfold g_X10_errorPosition at h
  refine am_of (own := RX10) (by decide +kernel) rfl (by exact Nat.le_of_ble_eq_true rfl) ?_
  intro p e s m args below meth c F hr
  show am_W p l e rm_X10_errorPosition s m args below meth c _ 1 D E z 0 0 M 0 [(0, .ref (z + 174))] []
  refine am_aload_n F 0 dX10_errorPosition_0 rfl rfl ?_
  refine am_iconst F (v := (0 : Int32)) dX10_errorPosition_1 (by decide) ?_
  refine pf_X10_51 F lyk_174 dX10_errorPosition_2 ?_
  refine am_aload_n F 0 dX10_errorPosition_5 rfl rfl ?_
  refine gf_X10_25 F lyk_174 dX10_errorPosition_6 ?_
  refine am_iconst F (v := (-1 : Int32)) dX10_errorPosition_9 (by decide) ?_
  refine am_icmp_ne F (tgt := 21) dX10_errorPosition_10 (by decide) (fun c4 => ?_) (fun c4 => ?_)
  · have h := (if_neg c4).symm.trans h
    refine am_aload_n F 0 dX10_errorPosition_21 rfl rfl ?_
    refine gf_X10_25 F lyk_174 dX10_errorPosition_22 ?_
    exact am_iret F hr h dX10_errorPosition_25
  · have h := (if_pos c4).symm.trans h
    refine am_aload_n F 0 dX10_errorPosition_13 rfl rfl ?_
    refine am_iconst F (v := (1 : Int32)) dX10_errorPosition_14 (by decide) ?_
    obtain ⟨v3, M2, h1, h⟩ := am_bE h
    refine am_callVi F [.int (1 : Int32)] lyk_174 (by decide) rfl cw_X10_164 (c_X10_fails l D E z (1 : Int32) (am_s M 174 0 (0 : Int32)) v3 M2 h1) yn_X10_fails rfl ⟨Nat.le_of_ble_eq_true rfl, Nat.le_of_ble_eq_true rfl⟩ rfl rfl (Nat.le_of_ble_eq_true rfl) ⟨Nat.zero_le _, Nat.zero_le _⟩ dX10_errorPosition_15 rfl ?_
    refine am_goto F (tgt := 25) dX10_errorPosition_18 (by decide) ?_
    exact am_iret F hr h dX10_errorPosition_25
/-! AisleSchedulerModel.save()I -/
abbrev rm_X10_save : Room := { frames := 1, cells := 0, slots := 0, locals := 24 }
theorem yn_X10_save : am_yn yX10_save 0 := ⟨⟨by decide +kernel, by decide +kernel⟩, by decide +kernel⟩
def g_X10_save_L7  : Nat → Int32 → am_M → Option ((Unit) × am_M)
  | 0, _, _ => none
  | n + 1, a1, M => (if (406 : Int32) ≤ a1 then (some ((), M)) else (am_ci a1 406 (am_ci a1 406 (g_X10_save_L7  n (a1 + (1 : Int32)) (am_s M 176 a1.toNatClampNeg (am_g M 175 a1.toNatClampNeg))))))
set_option maxHeartbeats 4000000 in
set_option maxRecDepth 100000 in
theorem cl_X10_save_L7 {l : Launch} {p : Program} {e : Env} {s : State} {m : MethodId} {args : Array Value} {below : List Frame} {meth : Method} {c : Code} {Q : State → Prop} {D : va_G} {E : Nat → ClassId} {z : Nat} (F : am_F p s m args meth c cX10_save 2 RX10 D E z)  : ∀ (n : Nat) (a1 : Int32) (M : am_M) (x : Unit) (M1 : am_M), g_X10_save_L7  n a1 M = some (x, M1) → (am_W p l e rm_X10_save s m args below meth c Q 2 D E z 0 0 M1 32 [(0, .ref (z + 174))] []) → am_W p l e rm_X10_save s m args below meth c Q 2 D E z 0 0 M 7 [(0, .ref (z + 174)), (1, .int a1)] [] := by
  intro n
  induction n with
  | zero => intro a1 M x M1 h K; cases h
  | succ n ih =>
    intro a1 M x M1 h K
    rw [g_X10_save_L7] at h
    refine am_iload_n F 1 dX10_save_7 rfl rfl ?_
    refine am_sipush F (v := (406 : Int32)) dX10_save_8 (by decide) ?_
    refine am_icmp_ge F (tgt := 32) dX10_save_11 (by decide) (fun c3 => ?_) (fun c3 => ?_)
    · have h := (if_pos c3).symm.trans h
      cases h
      exact am_sub (lv' := [(0, .ref (z + 174))]) [0] rfl (K)
    · have h := (if_neg c3).symm.trans h
      refine am_aload_n F 0 dX10_save_14 rfl rfl ?_
      refine gf_X10_13 F lyk_174 dX10_save_15 ?_
      refine am_iload_n F 1 dX10_save_18 rfl rfl ?_
      refine am_aload_n F 0 dX10_save_19 rfl rfl ?_
      refine gf_X10_7 F lyk_174 dX10_save_20 ?_
      refine am_iload_n F 1 dX10_save_23 rfl rfl ?_
      obtain ⟨q1, h⟩ := am_ciE h
      refine am_iald F lyk_175 q1 dX10_save_24 ?_
      obtain ⟨q2, h⟩ := am_ciE h
      refine am_iast F lyk_176 q2 dX10_save_25 ?_
      refine am_iinc F [(1, .int (a1 + (1 : Int32))), (0, .ref (z + 174))] 1 dX10_save_26 (by decide) rfl rfl rfl ?_
      refine am_goto F (tgt := 7) dX10_save_29 (by decide) ?_
      exact am_sub (lv' := [(0, .ref (z + 174)), (1, .int (a1 + (1 : Int32)))]) [1, 0] rfl (ih (a1 + (1 : Int32)) (am_s M 176 a1.toNatClampNeg (am_g M 175 a1.toNatClampNeg)) _ _ h K)
def g_X10_save  (M : am_M) : Option (Int32 × am_M) := (am_b (g_X10_save_L7  am_fu (0 : Int32) (am_s M 174 0 (0 : Int32))) (fun x4 M5 => (am_ci (0 : Int32) 406 (some ((am_g (am_s M5 174 4 (1 : Int32)) 175 (0 : Int32).toNatClampNeg), (am_s M5 174 4 (1 : Int32)))))))
set_option maxHeartbeats 4000000 in
set_option maxRecDepth 100000 in
theorem c_X10_save (l : Launch) (D : va_G) (E : Nat → ClassId) (z : Nat)  (M : am_M) (r0 : Int32) (M1 : am_M) (h : g_X10_save  M = some (r0, M1)) : am_Mi l yX10_save cX10_save 2 (some .int) rm_X10_save D E z [.ref (z + 174)] M r0 M1 := by
  unfold g_X10_save at h
  refine am_of (own := RX10) (by decide +kernel) rfl (by exact Nat.le_of_ble_eq_true rfl) ?_
  intro p e s m args below meth c F hr
  show am_W p l e rm_X10_save s m args below meth c _ 2 D E z 0 0 M 0 [(0, .ref (z + 174))] []
  refine am_aload_n F 0 dX10_save_0 rfl rfl ?_
  refine am_iconst F (v := (0 : Int32)) dX10_save_1 (by decide) ?_
  refine pf_X10_51 F lyk_174 dX10_save_2 ?_
  refine am_iconst F (v := (0 : Int32)) dX10_save_5 (by decide) ?_
  refine am_istore_n F [(1, .int (0 : Int32)), (0, .ref (z + 174))] dX10_save_6 rfl (by decide) rfl ?_
  obtain ⟨x4, M5, h6, h⟩ := am_bE h
  refine am_sub (lv' := [(0, .ref (z + 174)), (1, .int (0 : Int32))]) [1, 0] rfl (cl_X10_save_L7 F  am_fu (0 : Int32) (am_s M 174 0 (0 : Int32)) x4 M5 h6 ?_)
  refine am_aload_n F 0 dX10_save_32 rfl rfl ?_
  refine am_iconst F (v := (1 : Int32)) dX10_save_33 (by decide) ?_
  refine pf_X10_303 F lyk_174 (by decide) dX10_save_34 ?_
  refine am_aload_n F 0 dX10_save_37 rfl rfl ?_
  refine gf_X10_7 F lyk_174 dX10_save_38 ?_
  refine am_iconst F (v := (0 : Int32)) dX10_save_41 (by decide) ?_
  obtain ⟨q7, h⟩ := am_ciE h
  refine am_iald F lyk_175 q7 dX10_save_42 ?_
  exact am_iret F hr h dX10_save_43
/-! AisleSchedulerModel.restore()I -/
abbrev rm_X10_restore : Room := { frames := 2, cells := 0, slots := 0, locals := 45 }
theorem yn_X10_restore : am_yn yX10_restore 0 := ⟨⟨by decide +kernel, by decide +kernel⟩, by decide +kernel⟩
def g_X10_restore_L20  : Nat → Int32 → am_M → Option ((Unit) × am_M)
  | 0, _, _ => none
  | n + 1, a1, M => (if (406 : Int32) ≤ a1 then (some ((), M)) else (am_ci a1 406 (am_ci a1 406 (g_X10_restore_L20  n (a1 + (1 : Int32)) (am_s M 175 a1.toNatClampNeg (am_g M 176 a1.toNatClampNeg))))))
set_option maxHeartbeats 4000000 in
set_option maxRecDepth 100000 in
theorem cl_X10_restore_L20 {l : Launch} {p : Program} {e : Env} {s : State} {m : MethodId} {args : Array Value} {below : List Frame} {meth : Method} {c : Code} {Q : State → Prop} {D : va_G} {E : Nat → ClassId} {z : Nat} (F : am_F p s m args meth c cX10_restore 2 RX10 D E z)  : ∀ (n : Nat) (a1 : Int32) (M : am_M) (x : Unit) (M1 : am_M), g_X10_restore_L20  n a1 M = some (x, M1) → (am_W p l e rm_X10_restore s m args below meth c Q 2 D E z 0 0 M1 45 [(0, .ref (z + 174))] []) → am_W p l e rm_X10_restore s m args below meth c Q 2 D E z 0 0 M 20 [(0, .ref (z + 174)), (1, .int a1)] [] := by
  intro n
  induction n with
  | zero => intro a1 M x M1 h K; cases h
  | succ n ih =>
    intro a1 M x M1 h K
    rw [g_X10_restore_L20] at h
    refine am_iload_n F 1 dX10_restore_20 rfl rfl ?_
    refine am_sipush F (v := (406 : Int32)) dX10_restore_21 (by decide) ?_
    refine am_icmp_ge F (tgt := 45) dX10_restore_24 (by decide) (fun c3 => ?_) (fun c3 => ?_)
    · have h := (if_pos c3).symm.trans h
      cases h
      exact am_sub (lv' := [(0, .ref (z + 174))]) [0] rfl (K)
    · have h := (if_neg c3).symm.trans h
      refine am_aload_n F 0 dX10_restore_27 rfl rfl ?_
      refine gf_X10_7 F lyk_174 dX10_restore_28 ?_
      refine am_iload_n F 1 dX10_restore_31 rfl rfl ?_
      refine am_aload_n F 0 dX10_restore_32 rfl rfl ?_
      refine gf_X10_13 F lyk_174 dX10_restore_33 ?_
      refine am_iload_n F 1 dX10_restore_36 rfl rfl ?_
      obtain ⟨q1, h⟩ := am_ciE h
      refine am_iald F lyk_176 q1 dX10_restore_37 ?_
      obtain ⟨q2, h⟩ := am_ciE h
      refine am_iast F lyk_175 q2 dX10_restore_38 ?_
      refine am_iinc F [(1, .int (a1 + (1 : Int32))), (0, .ref (z + 174))] 1 dX10_restore_39 (by decide) rfl rfl rfl ?_
      refine am_goto F (tgt := 20) dX10_restore_42 (by decide) ?_
      exact am_sub (lv' := [(0, .ref (z + 174)), (1, .int (a1 + (1 : Int32)))]) [1, 0] rfl (ih (a1 + (1 : Int32)) (am_s M 175 a1.toNatClampNeg (am_g M 176 a1.toNatClampNeg)) _ _ h K)
def g_X10_restore  (M : am_M) : Option (Int32 × am_M) := (if (am_g (am_s M 174 0 (0 : Int32)) 174 4) = (0 : Int32) then (am_b (g_X10_fails (1 : Int32) (am_s M 174 0 (0 : Int32))) (fun v10 M9 => (some (v10, M9)))) else (am_b (g_X10_restore_L20  am_fu (0 : Int32) (am_s M 174 0 (0 : Int32))) (fun x4 M5 => (am_ci (0 : Int32) 406 (some ((am_g M5 175 (0 : Int32).toNatClampNeg), M5))))))
set_option maxHeartbeats 4000000 in
set_option maxRecDepth 100000 in
theorem c_X10_restore (l : Launch) (D : va_G) (E : Nat → ClassId) (z : Nat)  (M : am_M) (r0 : Int32) (M1 : am_M) (h : g_X10_restore  M = some (r0, M1)) : am_Mi l yX10_restore cX10_restore 2 (some .int) rm_X10_restore D E z [.ref (z + 174)] M r0 M1 := by
  unfold g_X10_restore at h
  refine am_of (own := RX10) (by decide +kernel) rfl (by exact Nat.le_of_ble_eq_true rfl) ?_
  intro p e s m args below meth c F hr
  show am_W p l e rm_X10_restore s m args below meth c _ 2 D E z 0 0 M 0 [(0, .ref (z + 174))] []
  refine am_aload_n F 0 dX10_restore_0 rfl rfl ?_
  refine am_iconst F (v := (0 : Int32)) dX10_restore_1 (by decide) ?_
  refine pf_X10_51 F lyk_174 dX10_restore_2 ?_
  refine am_aload_n F 0 dX10_restore_5 rfl rfl ?_
  refine gf_X10_303 F lyk_174 dX10_restore_6 ?_
  refine am_if_ne F (tgt := 18) dX10_restore_9 (by decide) (fun c11 => ?_) (fun c11 => ?_)
  · have h := (if_neg c11).symm.trans h
    refine am_iconst F (v := (0 : Int32)) dX10_restore_18 (by decide) ?_
    refine am_istore_n F [(1, .int (0 : Int32)), (0, .ref (z + 174))] dX10_restore_19 rfl (by decide) rfl ?_
    obtain ⟨x4, M5, h6, h⟩ := am_bE h
    refine am_sub (lv' := [(0, .ref (z + 174)), (1, .int (0 : Int32))]) [1, 0] rfl (cl_X10_restore_L20 F  am_fu (0 : Int32) (am_s M 174 0 (0 : Int32)) x4 M5 h6 ?_)
    refine am_aload_n F 0 dX10_restore_45 rfl rfl ?_
    refine gf_X10_7 F lyk_174 dX10_restore_46 ?_
    refine am_iconst F (v := (0 : Int32)) dX10_restore_49 (by decide) ?_
    obtain ⟨q7, h⟩ := am_ciE h
    refine am_iald F lyk_175 q7 dX10_restore_50 ?_
    exact am_iret F hr h dX10_restore_51
  · have h := (if_pos c11).symm.trans h
    refine am_aload_n F 0 dX10_restore_12 rfl rfl ?_
    refine am_iconst F (v := (1 : Int32)) dX10_restore_13 (by decide) ?_
    obtain ⟨v10, M9, h8, h⟩ := am_bE h
    refine am_callVi F [.int (1 : Int32)] lyk_174 (by decide) rfl cw_X10_164 (c_X10_fails l D E z (1 : Int32) (am_s M 174 0 (0 : Int32)) v10 M9 h8) yn_X10_fails rfl ⟨Nat.le_of_ble_eq_true rfl, Nat.le_of_ble_eq_true rfl⟩ rfl rfl (Nat.le_of_ble_eq_true rfl) ⟨Nat.zero_le _, Nat.zero_le _⟩ dX10_restore_14 rfl ?_
    exact am_iret F hr h dX10_restore_17
