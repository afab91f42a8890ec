/-! printed by wip/whole/drive.py -/
/-! AisleSchedulerModel.ticks()I -/
abbrev rm_X10_ticks : Room := { frames := 5, cells := 0, slots := 0, locals := 113 }
theorem yn_X10_ticks : am_yn yX10_ticks 0 := ⟨⟨by decide +kernel, by decide +kernel⟩, by decide +kernel⟩
def g_X10_ticks_L4 (a1 : Int32) : Nat → Int32 → am_M → Option ((Unit) × am_M)
  | 0, _, _ => none
  | n + 1, a2, M => (am_ci (6 : Int32) 406 (if (am_g M 175 (6 : Int32).toNatClampNeg) ≤ a2 then (some ((), M)) else (am_b (g_X10_does a2 M) (fun _ M3 => (g_X10_ticks_L4 a1 n (a2 + (1 : Int32)) M3)))))
set_option maxHeartbeats 4000000 in
set_option maxRecDepth 100000 in
theorem cl_X10_ticks_L4 {l : Launch} {p : Program} {e : Env} {s : State} {m : MethodId} {args : Array Value} {below : List Frame} {meth : Method} {c : Code} {Q : State → Prop} {D : va_G} {E : Nat → ClassId} {z : Nat} (F : am_F p s m args meth c cX10_ticks 3 RX10 D E z) (a1 : Int32) : ∀ (n : Nat) (a2 : Int32) (M : am_M) (x : Unit) (M1 : am_M), g_X10_ticks_L4 a1 n a2 M = some (x, M1) → (am_W p l e rm_X10_ticks s m args below meth c Q 3 D E z 0 0 M1 26 [(0, .ref (z + 174)), (1, .int a1)] []) → am_W p l e rm_X10_ticks s m args below meth c Q 3 D E z 0 0 M 4 [(0, .ref (z + 174)), (1, .int a1), (2, .int a2)] [] := by
  intro n
  induction n with
  | zero => intro a2 M x M1 h K; cases h
  | succ n ih =>
    intro a2 M x M1 h K
    rw [g_X10_ticks_L4] at h
    refine am_iload_n F 2 dX10_ticks_4 rfl rfl ?_
    refine am_aload_n F 0 dX10_ticks_5 rfl rfl ?_
    refine gf_X10_7 F lyk_174 dX10_ticks_6 ?_
    refine am_bipush F (v := (6 : Int32)) dX10_ticks_9 (by decide) ?_
    obtain ⟨q1, h⟩ := am_ciE h
    refine am_iald F lyk_175 q1 dX10_ticks_11 ?_
    refine am_icmp_ge F (tgt := 26) dX10_ticks_12 (by decide) (fun c4 => ?_) (fun c4 => ?_)
    · have h := (if_pos c4).symm.trans h
      cases h
      exact am_sub (lv' := [(0, .ref (z + 174)), (1, .int a1)]) [0, 1] rfl (K)
    · have h := (if_neg c4).symm.trans h
      refine am_aload_n F 0 dX10_ticks_15 rfl rfl ?_
      refine am_iload_n F 2 dX10_ticks_16 rfl rfl ?_
      obtain ⟨_, M3, h2, h⟩ := am_bE h
      refine am_callVv F [.int a2] lyk_174 (by decide) rfl cw_X10_241 (c_X10_does l D E z a2 M M3 h2) yn_X10_does rfl ⟨Nat.le_of_ble_eq_true rfl, Nat.le_of_ble_eq_true rfl⟩ rfl rfl (Nat.le_of_ble_eq_true rfl) ⟨Nat.zero_le _, Nat.zero_le _⟩ dX10_ticks_17 rfl ?_
      refine am_iinc F [(2, .int (a2 + (1 : Int32))), (0, .ref (z + 174)), (1, .int a1)] 2 dX10_ticks_20 (by decide) rfl rfl rfl ?_
      refine am_goto F (tgt := 4) dX10_ticks_23 (by decide) ?_
      exact am_sub (lv' := [(0, .ref (z + 174)), (1, .int a1), (2, .int (a2 + (1 : Int32)))]) [1, 2, 0] rfl (ih (a2 + (1 : Int32)) M3 _ _ h K)
def g_X10_ticks_J63 (rc : Int32 → Int32 → am_M → Option ((Int32) × am_M)) (a2 : Int32) (as0 : Int32) (as1 : Int32) (M : am_M) : Option ((Int32) × am_M) := (am_b (g_X10_isInLift a2 M) (fun v16 M15 => (if v16 = (0 : Int32) then (am_b (g_X10_of a2 (0 : Int32) M15) (fun v19 M18 => (am_ci ((48 : Int32) + v19) 406 (am_ci ((48 : Int32) + v19) 406 (rc (as0 + as1) (a2 + (1 : Int32)) (am_s M18 175 ((48 : Int32) + v19).toNatClampNeg ((am_g M18 175 ((48 : Int32) + v19).toNatClampNeg) + (1 : Int32)))))))) else (rc (as0 + as1) (a2 + (1 : Int32)) M15))))
set_option maxHeartbeats 4000000 in
set_option maxRecDepth 100000 in
theorem cj_X10_ticks_J63 {l : Launch} {p : Program} {e : Env} {s : State} {m : MethodId} {args : Array Value} {below : List Frame} {meth : Method} {c : Code} {Q : State → Prop} {D : va_G} {E : Nat → ClassId} {z : Nat} (F : am_F p s m args meth c cX10_ticks 3 RX10 D E z) (rc : Int32 → Int32 → am_M → Option ((Int32) × am_M)) (a2 : Int32) (as0 : Int32) (as1 : Int32) (M : am_M) (x : Int32) (M1 : am_M) (h : g_X10_ticks_J63 rc a2 as0 as1 M = some (x, M1)) (HR : ∀ (b1 : Int32) (b2 : Int32) (M2 : am_M), rc b1 b2 M2 = some (x, M1) → am_W p l e rm_X10_ticks s m args below meth c Q 3 D E z 0 0 M2 38 [(0, .ref (z + 174)), (1, .int b1), (2, .int b2)] []) (K : am_W p l e rm_X10_ticks s m args below meth c Q 3 D E z 0 0 M1 97 [(1, .int x)] []) : am_W p l e rm_X10_ticks s m args below meth c Q 3 D E z 0 0 M 63 [(0, .ref (z + 174)), (2, .int a2)] [.int as1, .int as0] := by
  unfold g_X10_ticks_J63 at h
  refine am_iadd F dX10_ticks_63 ?_
  refine am_istore_n F [(1, .int (as0 + as1)), (0, .ref (z + 174)), (2, .int a2)] dX10_ticks_64 rfl (by decide) rfl ?_
  refine am_aload_n F 1 dX10_ticks_65 rfl rfl ?_
  refine am_iload_n F 2 dX10_ticks_66 rfl rfl ?_
  obtain ⟨v16, M15, h14, h⟩ := am_bE h
  refine am_callVi F [.int a2] lyk_174 (by decide) rfl cw_X10_151 (c_X10_isInLift l D E z a2 M v16 M15 h14) yn_X10_isInLift rfl ⟨Nat.le_of_ble_eq_true rfl, Nat.le_of_ble_eq_true rfl⟩ rfl rfl (Nat.le_of_ble_eq_true rfl) ⟨Nat.zero_le _, Nat.zero_le _⟩ dX10_ticks_67 rfl ?_
  refine am_if_ne F (tgt := 91) dX10_ticks_70 (by decide) (fun c22 => ?_) (fun c22 => ?_)
  · have h := (if_neg c22).symm.trans h
    refine am_iinc F [(2, .int (a2 + (1 : Int32))), (1, .int (as0 + as1)), (0, .ref (z + 174))] 2 dX10_ticks_91 (by decide) rfl rfl rfl ?_
    refine am_goto F (tgt := 38) dX10_ticks_94 (by decide) ?_
    exact am_sub (lv' := [(0, .ref (z + 174)), (1, .int (as0 + as1)), (2, .int (a2 + (1 : Int32)))]) [2, 1, 0] rfl (HR (as0 + as1) (a2 + (1 : Int32)) M15 h)
  · have h := (if_pos c22).symm.trans h
    refine am_aload_n F 1 dX10_ticks_73 rfl rfl ?_
    refine gf_X10_7 F lyk_174 dX10_ticks_74 ?_
    refine am_bipush F (v := (48 : Int32)) dX10_ticks_77 (by decide) ?_
    refine am_aload_n F 1 dX10_ticks_79 rfl rfl ?_
    refine am_iload_n F 2 dX10_ticks_80 rfl rfl ?_
    refine am_iconst F (v := (0 : Int32)) dX10_ticks_81 (by decide) ?_
    obtain ⟨v19, M18, h17, h⟩ := am_bE h
    refine am_callVi F [.int a2, .int (0 : Int32)] lyk_174 (by decide) rfl cw_X10_58 (c_X10_of l D E z a2 (0 : Int32) M15 v19 M18 h17) yn_X10_of rfl ⟨Nat.le_of_ble_eq_true rfl, Nat.le_of_ble_eq_true rfl⟩ rfl rfl (Nat.le_of_ble_eq_true rfl) ⟨Nat.zero_le _, Nat.zero_le _⟩ dX10_ticks_82 rfl ?_
    refine am_iadd F dX10_ticks_85 ?_
    refine am_dup2 F dX10_ticks_86 rfl rfl ?_
    obtain ⟨q20, h⟩ := am_ciE h
    refine am_iald F lyk_175 q20 dX10_ticks_87 ?_
    refine am_iconst F (v := (1 : Int32)) dX10_ticks_88 (by decide) ?_
    refine am_iadd F dX10_ticks_89 ?_
    obtain ⟨q21, h⟩ := am_ciE h
    refine am_iast F lyk_175 q21 dX10_ticks_90 ?_
    refine am_iinc F [(2, .int (a2 + (1 : Int32))), (1, .int (as0 + as1)), (0, .ref (z + 174))] 2 dX10_ticks_91 (by decide) rfl rfl rfl ?_
    refine am_goto F (tgt := 38) dX10_ticks_94 (by decide) ?_
    exact am_sub (lv' := [(0, .ref (z + 174)), (1, .int (as0 + as1)), (2, .int (a2 + (1 : Int32)))]) [2, 1, 0] rfl (HR (as0 + as1) (a2 + (1 : Int32)) (am_s M18 175 ((48 : Int32) + v19).toNatClampNeg ((am_g M18 175 ((48 : Int32) + v19).toNatClampNeg) + (1 : Int32))) h)
def g_X10_ticks_L38  : Nat → Int32 → Int32 → am_M → Option ((Int32) × am_M)
  | 0, _, _, _ => none
  | n + 1, a1, a2, M => (am_ci (6 : Int32) 406 (if (am_g M 175 (6 : Int32).toNatClampNeg) ≤ a2 then (some (a1, M)) else (am_b (g_X10_ends a2 M) (fun v13 M12 => (if v13 = (0 : Int32) then (g_X10_ticks_J63 (g_X10_ticks_L38  n) a2 a1 (0 : Int32) M12) else (g_X10_ticks_J63 (g_X10_ticks_L38  n) a2 a1 (1 : Int32) M12))))))
set_option maxHeartbeats 4000000 in
set_option maxRecDepth 100000 in
theorem cl_X10_ticks_L38 {l : Launch} {p : Program} {e : Env} {s : State} {m : MethodId} {args : Array Value} {below : List Frame} {meth : Method} {c : Code} {Q : State → Prop} {D : va_G} {E : Nat → ClassId} {z : Nat} (F : am_F p s m args meth c cX10_ticks 3 RX10 D E z)  : ∀ (n : Nat) (a1 : Int32) (a2 : Int32) (M : am_M) (x : Int32) (M1 : am_M), g_X10_ticks_L38  n a1 a2 M = some (x, M1) → (am_W p l e rm_X10_ticks s m args below meth c Q 3 D E z 0 0 M1 97 [(1, .int x)] []) → am_W p l e rm_X10_ticks s m args below meth c Q 3 D E z 0 0 M 38 [(0, .ref (z + 174)), (1, .int a1), (2, .int a2)] [] := by
  intro n
  induction n with
  | zero => intro a1 a2 M x M1 h K; cases h
  | succ n ih =>
    intro a1 a2 M x M1 h K
    rw [g_X10_ticks_L38] at h
    refine am_iload_n F 2 dX10_ticks_38 rfl rfl ?_
    refine am_aload_n F 0 dX10_ticks_39 rfl rfl ?_
    refine gf_X10_7 F lyk_174 dX10_ticks_40 ?_
    refine am_bipush F (v := (6 : Int32)) dX10_ticks_43 (by decide) ?_
    obtain ⟨q10, h⟩ := am_ciE h
    refine am_iald F lyk_175 q10 dX10_ticks_45 ?_
    refine am_icmp_ge F (tgt := 97) dX10_ticks_46 (by decide) (fun c24 => ?_) (fun c24 => ?_)
    · have h := (if_pos c24).symm.trans h
      cases h
      exact am_sub (lv' := [(1, .int a1)]) [1] rfl (K)
    · have h := (if_neg c24).symm.trans h
      refine am_iload_n F 1 dX10_ticks_49 rfl rfl ?_
      refine am_aload_n F 0 dX10_ticks_50 rfl rfl ?_
      refine am_iload_n F 2 dX10_ticks_51 rfl rfl ?_
      obtain ⟨v13, M12, h11, h⟩ := am_bE h
      refine am_callVi F [.int a2] lyk_174 (by decide) rfl cw_X10_244 (c_X10_ends l D E z a2 M v13 M12 h11) yn_X10_ends rfl ⟨Nat.le_of_ble_eq_true rfl, Nat.le_of_ble_eq_true rfl⟩ rfl rfl (Nat.le_of_ble_eq_true rfl) ⟨Nat.zero_le _, Nat.zero_le _⟩ dX10_ticks_52 rfl ?_
      refine am_if_eq F (tgt := 62) dX10_ticks_55 (by decide) (fun c23 => ?_) (fun c23 => ?_)
      · have h := (if_pos c23).symm.trans h
        refine am_iconst F (v := (0 : Int32)) dX10_ticks_62 (by decide) ?_
        exact am_sub (lv' := [(0, .ref (z + 174)), (2, .int a2)]) [0, 2] rfl (cj_X10_ticks_J63 F (g_X10_ticks_L38  n) a2 a1 (0 : Int32) M12 _ _ h (fun b1 b2 M2 h2 => ih b1 b2 M2 _ _ h2 K) K)
      · have h := (if_neg c23).symm.trans h
        refine am_iconst F (v := (1 : Int32)) dX10_ticks_58 (by decide) ?_
        refine am_goto F (tgt := 63) dX10_ticks_59 (by decide) ?_
        exact am_sub (lv' := [(0, .ref (z + 174)), (2, .int a2)]) [0, 2] rfl (cj_X10_ticks_J63 F (g_X10_ticks_L38  n) a2 a1 (1 : Int32) M12 _ _ h (fun b1 b2 M2 h2 => ih b1 b2 M2 _ _ h2 K) K)
def g_X10_ticks  (M : am_M) : Option (Int32 × am_M) := (am_b (g_X10_ticks_L4 (0 : Int32) am_fu (0 : Int32) M) (fun x5 M6 => (am_ci (0 : Int32) 406 (am_ci (0 : Int32) 406 (am_b (g_X10_ticks_L38  am_fu (0 : Int32) (0 : Int32) (am_s M6 175 (0 : Int32).toNatClampNeg ((am_g M6 175 (0 : Int32).toNatClampNeg) + (1 : Int32)))) (fun x25 M26 => (some (x25, M26))))))))
set_option maxHeartbeats 4000000 in
set_option maxRecDepth 100000 in
theorem c_X10_ticks (l : Launch) (D : va_G) (E : Nat → ClassId) (z : Nat)  (M : am_M) (r0 : Int32) (M1 : am_M) (h : g_X10_ticks  M = some (r0, M1)) : am_Mi l yX10_ticks cX10_ticks 3 (some .int) rm_X10_ticks D E z [.ref (z + 174)] M r0 M1 := by
  unfold g_X10_ticks at h
  refine am_of (own := RX10) (by decide +kernel) rfl (by exact Nat.le_of_ble_eq_true rfl) ?_
  intro p e s m args below meth c F hr
  show am_W p l e rm_X10_ticks s m args below meth c _ 3 D E z 0 0 M 0 [(0, .ref (z + 174))] []
  refine am_iconst F (v := (0 : Int32)) dX10_ticks_0 (by decide) ?_
  refine am_istore_n F [(1, .int (0 : Int32)), (0, .ref (z + 174))] dX10_ticks_1 rfl (by decide) rfl ?_
  refine am_iconst F (v := (0 : Int32)) dX10_ticks_2 (by decide) ?_
  refine am_istore_n F [(2, .int (0 : Int32)), (1, .int (0 : Int32)), (0, .ref (z + 174))] dX10_ticks_3 rfl (by decide) rfl ?_
  obtain ⟨x5, M6, h7, h⟩ := am_bE h
  refine am_sub (lv' := [(0, .ref (z + 174)), (1, .int (0 : Int32)), (2, .int (0 : Int32))]) [2, 1, 0] rfl (cl_X10_ticks_L4 F (0 : Int32) am_fu (0 : Int32) M x5 M6 h7 ?_)
  refine am_aload_n F 0 dX10_ticks_26 rfl rfl ?_
  refine gf_X10_7 F lyk_174 dX10_ticks_27 ?_
  refine am_iconst F (v := (0 : Int32)) dX10_ticks_30 (by decide) ?_
  refine am_dup2 F dX10_ticks_31 rfl rfl ?_
  obtain ⟨q8, h⟩ := am_ciE h
  refine am_iald F lyk_175 q8 dX10_ticks_32 ?_
  refine am_iconst F (v := (1 : Int32)) dX10_ticks_33 (by decide) ?_
  refine am_iadd F dX10_ticks_34 ?_
  obtain ⟨q9, h⟩ := am_ciE h
  refine am_iast F lyk_175 q9 dX10_ticks_35 ?_
  refine am_iconst F (v := (0 : Int32)) dX10_ticks_36 (by decide) ?_
  refine am_istore_n F [(2, .int (0 : Int32)), (0, .ref (z + 174)), (1, .int (0 : Int32))] dX10_ticks_37 rfl (by decide) rfl ?_
  obtain ⟨x25, M26, h27, h⟩ := am_bE h
  refine am_sub (lv' := [(0, .ref (z + 174)), (1, .int (0 : Int32)), (2, .int (0 : Int32))]) [1, 2, 0] rfl (cl_X10_ticks_L38 F  am_fu (0 : Int32) (0 : Int32) (am_s M6 175 (0 : Int32).toNatClampNeg ((am_g M6 175 (0 : Int32).toNatClampNeg) + (1 : Int32))) x25 M26 h27 ?_)
  refine am_iload_n F 0 dX10_ticks_97 rfl rfl ?_
  exact am_iret F hr h dX10_ticks_98
/-! AisleSchedulerModel.advance(I)I -/
abbrev rm_X10_advance : Room := { frames := 6, cells := 0, slots := 0, locals := 135 }
theorem yn_X10_advance : am_yn yX10_advance 1 := ⟨⟨by decide +kernel, by decide +kernel⟩, by decide +kernel⟩
def g_X10_advance_L45 (a1 : Int32) : Nat → Int32 → Int32 → am_M → Option ((Int32) × am_M)
  | 0, _, _, _ => none
  | n + 1, a2, a3, M => (if a1 ≤ a3 then (some (a2, M)) else (am_b (g_X10_ticks  M) (fun v7 M6 => (g_X10_advance_L45 a1 n (a2 + v7) (a3 + (1 : Int32)) M6))))
set_option maxHeartbeats 4000000 in
set_option maxRecDepth 100000 in
theorem cl_X10_advance_L45 {l : Launch} {p : Program} {e : Env} {s : State} {m : MethodId} {args : Array Value} {below : List Frame} {meth : Method} {c : Code} {Q : State → Prop} {D : va_G} {E : Nat → ClassId} {z : Nat} (F : am_F p s m args meth c cX10_advance 4 RX10 D E z) (a1 : Int32) : ∀ (n : Nat) (a2 : Int32) (a3 : Int32) (M : am_M) (x : Int32) (M1 : am_M), g_X10_advance_L45 a1 n a2 a3 M = some (x, M1) → (am_W p l e rm_X10_advance s m args below meth c Q 4 D E z 0 0 M1 63 [(2, .int x)] []) → am_W p l e rm_X10_advance s m args below meth c Q 4 D E z 0 0 M 45 [(0, .ref (z + 174)), (1, .int a1), (2, .int a2), (3, .int a3)] [] := by
  intro n
  induction n with
  | zero => intro a2 a3 M x M1 h K; cases h
  | succ n ih =>
    intro a2 a3 M x M1 h K
    rw [g_X10_advance_L45] at h
    refine am_iload_n F 3 dX10_advance_45 rfl rfl ?_
    refine am_iload_n F 1 dX10_advance_46 rfl rfl ?_
    refine am_icmp_ge F (tgt := 63) dX10_advance_47 (by decide) (fun c8 => ?_) (fun c8 => ?_)
    · have h := (if_pos c8).symm.trans h
      cases h
      exact am_sub (lv' := [(2, .int a2)]) [2] rfl (K)
    · have h := (if_neg c8).symm.trans h
      refine am_iload_n F 2 dX10_advance_50 rfl rfl ?_
      refine am_aload_n F 0 dX10_advance_51 rfl rfl ?_
      obtain ⟨v7, M6, h5, h⟩ := am_bE h
      refine am_callVi F [] lyk_174 (by decide) rfl cw_X10_247 (c_X10_ticks l D E z  M v7 M6 h5) yn_X10_ticks rfl ⟨Nat.le_of_ble_eq_true rfl, Nat.le_of_ble_eq_true rfl⟩ rfl rfl (Nat.le_of_ble_eq_true rfl) ⟨Nat.zero_le _, Nat.zero_le _⟩ dX10_advance_52 rfl ?_
      refine am_iadd F dX10_advance_55 ?_
      refine am_istore_n F [(2, .int (a2 + v7)), (0, .ref (z + 174)), (1, .int a1), (3, .int a3)] dX10_advance_56 rfl (by decide) rfl ?_
      refine am_iinc F [(3, .int (a3 + (1 : Int32))), (2, .int (a2 + v7)), (0, .ref (z + 174)), (1, .int a1)] 3 dX10_advance_57 (by decide) rfl rfl rfl ?_
      refine am_goto F (tgt := 45) dX10_advance_60 (by decide) ?_
      exact am_sub (lv' := [(0, .ref (z + 174)), (1, .int a1), (2, .int (a2 + v7)), (3, .int (a3 + (1 : Int32)))]) [2, 3, 1, 0] rfl (ih (a2 + v7) (a3 + (1 : Int32)) M6 _ _ h K)
def g_X10_advance (a1 : Int32) (M : am_M) : Option (Int32 × am_M) := (am_b (g_X10_in a1 (1 : Int32) (30 : Int32) (am_s M 174 0 (0 : Int32))) (fun v3 M2 => (if v3 = (0 : Int32) then (am_b (g_X10_fails (1 : Int32) M2) (fun v18 M17 => (some (v18, M17)))) else (am_ci (0 : Int32) 406 (if ((am_g M2 175 (0 : Int32).toNatClampNeg) + a1) ≤ (1000 : Int32) then (am_b (g_X10_advance_L45 a1 am_fu (0 : Int32) (0 : Int32) M2) (fun x9 M10 => (some (x9, M10)))) else (am_b (g_X10_fails (2 : Int32) M2) (fun v14 M13 => (some (v14, M13)))))))))
set_option maxHeartbeats 4000000 in
set_option maxRecDepth 100000 in
theorem c_X10_advance (l : Launch) (D : va_G) (E : Nat → ClassId) (z : Nat) (a1 : Int32) (M : am_M) (r0 : Int32) (M1 : am_M) (h : g_X10_advance a1 M = some (r0, M1)) : am_Mi l yX10_advance cX10_advance 4 (some .int) rm_X10_advance D E z [.ref (z + 174), .int a1] M r0 M1 := by
  unfold g_X10_advance at h
  refine am_of (own := RX10) (by decide +kernel) rfl (by exact Nat.le_of_ble_eq_true rfl) ?_
  intro p e s m args below meth c F hr
  show am_W p l e rm_X10_advance s m args below meth c _ 4 D E z 0 0 M 0 [(0, .ref (z + 174)), (1, .int a1)] []
  refine am_aload_n F 0 dX10_advance_0 rfl rfl ?_
  refine am_iconst F (v := (0 : Int32)) dX10_advance_1 (by decide) ?_
  refine pf_X10_51 F lyk_174 dX10_advance_2 ?_
  refine am_iload_n F 1 dX10_advance_5 rfl rfl ?_
  refine am_iconst F (v := (1 : Int32)) dX10_advance_6 (by decide) ?_
  refine am_bipush F (v := (30 : Int32)) dX10_advance_7 (by decide) ?_
  obtain ⟨v3, M2, h1, h⟩ := am_bE h
  refine am_callSi F [.int a1, .int (1 : Int32), .int (30 : Int32)] cw_X10_54 rfl (c_X10_in l D E z a1 (1 : Int32) (30 : Int32) (am_s M 174 0 (0 : Int32)) v3 M2 h1) yn_X10_in rfl ⟨Nat.le_of_ble_eq_true rfl, Nat.le_of_ble_eq_true rfl⟩ rfl rfl (Nat.le_of_ble_eq_true rfl) ⟨Nat.zero_le _, Nat.zero_le _⟩ dX10_advance_9 rfl ?_
  refine am_if_ne F (tgt := 21) dX10_advance_12 (by decide) (fun c19 => ?_) (fun c19 => ?_)
  · have h := (if_neg c19).symm.trans h
    refine am_aload_n F 0 dX10_advance_21 rfl rfl ?_
    refine gf_X10_7 F lyk_174 dX10_advance_22 ?_
    refine am_iconst F (v := (0 : Int32)) dX10_advance_25 (by decide) ?_
    obtain ⟨q4, h⟩ := am_ciE h
    refine am_iald F lyk_175 q4 dX10_advance_26 ?_
    refine am_iload_n F 1 dX10_advance_27 rfl rfl ?_
    refine am_iadd F dX10_advance_28 ?_
    refine am_sipush F (v := (1000 : Int32)) dX10_advance_29 (by decide) ?_
    refine am_icmp_le F (tgt := 41) dX10_advance_32 (by decide) (fun c15 => ?_) (fun c15 => ?_)
    · have h := (if_pos c15).symm.trans h
      refine am_iconst F (v := (0 : Int32)) dX10_advance_41 (by decide) ?_
      refine am_istore_n F [(2, .int (0 : Int32)), (0, .ref (z + 174)), (1, .int a1)] dX10_advance_42 rfl (by decide) rfl ?_
      refine am_iconst F (v := (0 : Int32)) dX10_advance_43 (by decide) ?_
      refine am_istore_n F [(3, .int (0 : Int32)), (2, .int (0 : Int32)), (0, .ref (z + 174)), (1, .int a1)] dX10_advance_44 rfl (by decide) rfl ?_
      obtain ⟨x9, M10, h11, h⟩ := am_bE h
      refine am_sub (lv' := [(0, .ref (z + 174)), (1, .int a1), (2, .int (0 : Int32)), (3, .int (0 : Int32))]) [2, 3, 1, 0] rfl (cl_X10_advance_L45 F a1 am_fu (0 : Int32) (0 : Int32) M2 x9 M10 h11 ?_)
      refine am_iload_n F 0 dX10_advance_63 rfl rfl ?_
      exact am_iret F hr h dX10_advance_64
    · have h := (if_neg c15).symm.trans h
      refine am_aload_n F 0 dX10_advance_35 rfl rfl ?_
      refine am_iconst F (v := (2 : Int32)) dX10_advance_36 (by decide) ?_
      obtain ⟨v14, M13, h12, h⟩ := am_bE h
      refine am_callVi F [.int (2 : Int32)] lyk_174 (by decide) rfl cw_X10_164 (c_X10_fails l D E z (2 : Int32) M2 v14 M13 h12) yn_X10_fails rfl ⟨Nat.le_of_ble_eq_true rfl, Nat.le_of_ble_eq_true rfl⟩ rfl rfl (Nat.le_of_ble_eq_true rfl) ⟨Nat.zero_le _, Nat.zero_le _⟩ dX10_advance_37 rfl ?_
      exact am_iret F hr h dX10_advance_40
  · have h := (if_pos c19).symm.trans h
    refine am_aload_n F 0 dX10_advance_15 rfl rfl ?_
    refine am_iconst F (v := (1 : Int32)) dX10_advance_16 (by decide) ?_
    obtain ⟨v18, M17, h16, h⟩ := am_bE h
    refine am_callVi F [.int (1 : Int32)] lyk_174 (by decide) rfl cw_X10_164 (c_X10_fails l D E z (1 : Int32) M2 v18 M17 h16) yn_X10_fails rfl ⟨Nat.le_of_ble_eq_true rfl, Nat.le_of_ble_eq_true rfl⟩ rfl rfl (Nat.le_of_ble_eq_true rfl) ⟨Nat.zero_le _, Nat.zero_le _⟩ dX10_advance_17 rfl ?_
    exact am_iret F hr h dX10_advance_20
/-! AisleSchedulerModel.statistic(II)I -/
abbrev rm_X10_statistic : Room := { frames := 3, cells := 0, slots := 0, locals := 67 }
theorem yn_X10_statistic : am_yn yX10_statistic 2 := ⟨⟨by decide +kernel, by decide +kernel⟩, by decide +kernel⟩
def g_X10_statistic (a1 : Int32) (a2 : Int32) (M : am_M) : Option (Int32 × am_M) := (am_b (g_X10_isRobot a1 (am_s M 174 0 (0 : Int32))) (fun v3 M2 => (if v3 = (0 : Int32) then (am_b (g_X10_fails (1 : Int32) M2) (fun v16 M15 => (some (v16, M15)))) else (am_b (g_X10_in a2 (0 : Int32) (4 : Int32) M2) (fun v6 M5 => (if v6 = (0 : Int32) then (am_b (g_X10_fails (2 : Int32) M5) (fun v9 M8 => (some (v9, M8)))) else (am_b (g_X10_of a1 ((5 : Int32) + a2) M5) (fun v12 M11 => (some (v12, M11))))))))))
set_option maxHeartbeats 4000000 in
set_option maxRecDepth 100000 in
theorem c_X10_statistic (l : Launch) (D : va_G) (E : Nat → ClassId) (z : Nat) (a1 : Int32) (a2 : Int32) (M : am_M) (r0 : Int32) (M1 : am_M) (h : g_X10_statistic a1 a2 M = some (r0, M1)) : am_Mi l yX10_statistic cX10_statistic 3 (some .int) rm_X10_statistic D E z [.ref (z + 174), .int a1, .int a2] M r0 M1 := by
  unfold g_X10_statistic at h
  refine am_of (own := RX10) (by decide +kernel) rfl (by exact Nat.le_of_ble_eq_true rfl) ?_
  intro p e s m args below meth c F hr
  show am_W p l e rm_X10_statistic s m args below meth c _ 3 D E z 0 0 M 0 [(0, .ref (z + 174)), (1, .int a1), (2, .int a2)] []
  refine am_aload_n F 0 dX10_statistic_0 rfl rfl ?_
  refine am_iconst F (v := (0 : Int32)) dX10_statistic_1 (by decide) ?_
  refine pf_X10_51 F lyk_174 dX10_statistic_2 ?_
  refine am_aload_n F 0 dX10_statistic_5 rfl rfl ?_
  refine am_iload_n F 1 dX10_statistic_6 rfl rfl ?_
  obtain ⟨v3, M2, h1, h⟩ := am_bE h
  refine am_callVi F [.int a1] lyk_174 (by decide) rfl cw_X10_173 (c_X10_isRobot l D E z a1 (am_s M 174 0 (0 : Int32)) v3 M2 h1) yn_X10_isRobot rfl ⟨Nat.le_of_ble_eq_true rfl, Nat.le_of_ble_eq_true rfl⟩ rfl rfl (Nat.le_of_ble_eq_true rfl) ⟨Nat.zero_le _, Nat.zero_le _⟩ dX10_statistic_7 rfl ?_
  refine am_if_ne F (tgt := 19) dX10_statistic_10 (by decide) (fun c17 => ?_) (fun c17 => ?_)
  · have h := (if_neg c17).symm.trans h
    refine am_iload_n F 2 dX10_statistic_19 rfl rfl ?_
    refine am_iconst F (v := (0 : Int32)) dX10_statistic_20 (by decide) ?_
    refine am_iconst F (v := (4 : Int32)) dX10_statistic_21 (by decide) ?_
    obtain ⟨v6, M5, h4, h⟩ := am_bE h
    refine am_callSi F [.int a2, .int (0 : Int32), .int (4 : Int32)] cw_X10_54 rfl (c_X10_in l D E z a2 (0 : Int32) (4 : Int32) M2 v6 M5 h4) yn_X10_in rfl ⟨Nat.le_of_ble_eq_true rfl, Nat.le_of_ble_eq_true rfl⟩ rfl rfl (Nat.le_of_ble_eq_true rfl) ⟨Nat.zero_le _, Nat.zero_le _⟩ dX10_statistic_22 rfl ?_
    refine am_if_eq F (tgt := 39) dX10_statistic_25 (by decide) (fun c13 => ?_) (fun c13 => ?_)
    · have h := (if_pos c13).symm.trans h
      refine am_aload_n F 0 dX10_statistic_39 rfl rfl ?_
      refine am_iconst F (v := (2 : Int32)) dX10_statistic_40 (by decide) ?_
      obtain ⟨v9, M8, h7, h⟩ := am_bE h
      refine am_callVi F [.int (2 : Int32)] lyk_174 (by decide) rfl cw_X10_164 (c_X10_fails l D E z (2 : Int32) M5 v9 M8 h7) yn_X10_fails rfl ⟨Nat.le_of_ble_eq_true rfl, Nat.le_of_ble_eq_true rfl⟩ rfl rfl (Nat.le_of_ble_eq_true rfl) ⟨Nat.zero_le _, Nat.zero_le _⟩ dX10_statistic_41 rfl ?_
      exact am_iret F hr h dX10_statistic_44
    · have h := (if_neg c13).symm.trans h
      refine am_aload_n F 0 dX10_statistic_28 rfl rfl ?_
      refine am_iload_n F 1 dX10_statistic_29 rfl rfl ?_
      refine am_iconst F (v := (5 : Int32)) dX10_statistic_30 (by decide) ?_
      refine am_iload_n F 2 dX10_statistic_31 rfl rfl ?_
      refine am_iadd F dX10_statistic_32 ?_
      obtain ⟨v12, M11, h10, h⟩ := am_bE h
      refine am_callVi F [.int a1, .int ((5 : Int32) + a2)] lyk_174 (by decide) rfl cw_X10_58 (c_X10_of l D E z a1 ((5 : Int32) + a2) M5 v12 M11 h10) yn_X10_of rfl ⟨Nat.le_of_ble_eq_true rfl, Nat.le_of_ble_eq_true rfl⟩ rfl rfl (Nat.le_of_ble_eq_true rfl) ⟨Nat.zero_le _, Nat.zero_le _⟩ dX10_statistic_33 rfl ?_
      refine am_goto F (tgt := 44) dX10_statistic_36 (by decide) ?_
      exact am_iret F hr h dX10_statistic_44
  · have h := (if_pos c17).symm.trans h
    refine am_aload_n F 0 dX10_statistic_13 rfl rfl ?_
    refine am_iconst F (v := (1 : Int32)) dX10_statistic_14 (by decide) ?_
    obtain ⟨v16, M15, h14, h⟩ := am_bE h
    refine am_callVi F [.int (1 : Int32)] lyk_174 (by decide) rfl cw_X10_164 (c_X10_fails l D E z (1 : Int32) M2 v16 M15 h14) yn_X10_fails rfl ⟨Nat.le_of_ble_eq_true rfl, Nat.le_of_ble_eq_true rfl⟩ rfl rfl (Nat.le_of_ble_eq_true rfl) ⟨Nat.zero_le _, Nat.zero_le _⟩ dX10_statistic_15 rfl ?_
    exact am_iret F hr h dX10_statistic_18
/-! AisleSchedulerModel.active(I)F -/
abbrev rm_X10_active : Room := { frames := 2, cells := 0, slots := 0, locals := 46 }
theorem yn_X10_active : am_yn yX10_active 1 := ⟨⟨by decide +kernel, by decide +kernel⟩, by decide +kernel⟩
def g_X10_active (a1 : Int32) (M : am_M) : Option (UInt32 × am_M) := (am_b (g_X10_of a1 (10 : Int32) M) (fun v3 M2 => (am_b (g_X10_of a1 (7 : Int32) M2) (fun v6 M5 => (am_b (g_X10_of a1 (10 : Int32) M5) (fun v9 M8 => (am_c ((FP.fdiv (FP.i2f (v3 - v6)) (FP.i2f v9)) &&& 0x7fffffff ≤ 0x7f800000) (some ((FP.fdiv (FP.i2f (v3 - v6)) (FP.i2f v9)), M8)))))))))
set_option maxHeartbeats 4000000 in
set_option maxRecDepth 100000 in
theorem c_X10_active (l : Launch) (D : va_G) (E : Nat → ClassId) (z : Nat) (a1 : Int32) (M : am_M) (r0 : UInt32) (M1 : am_M) (h : g_X10_active a1 M = some (r0, M1)) : am_Mf l yX10_active cX10_active 2 (some .float) rm_X10_active D E z [.ref (z + 174), .int a1] M r0 M1 := by
  unfold g_X10_active at h
  refine am_of (own := RX10) (by decide +kernel) rfl (by exact Nat.le_of_ble_eq_true rfl) ?_
  intro p e s m args below meth c F hr
  show am_W p l e rm_X10_active s m args below meth c _ 2 D E z 0 0 M 0 [(0, .ref (z + 174)), (1, .int a1)] []
  refine am_aload_n F 0 dX10_active_0 rfl rfl ?_
  refine am_iload_n F 1 dX10_active_1 rfl rfl ?_
  refine am_bipush F (v := (10 : Int32)) dX10_active_2 (by decide) ?_
  obtain ⟨v3, M2, h1, h⟩ := am_bE h
  refine am_callVi F [.int a1, .int (10 : Int32)] lyk_174 (by decide) rfl cw_X10_58 (c_X10_of l D E z a1 (10 : Int32) M v3 M2 h1) yn_X10_of rfl ⟨Nat.le_of_ble_eq_true rfl, Nat.le_of_ble_eq_true rfl⟩ rfl rfl (Nat.le_of_ble_eq_true rfl) ⟨Nat.zero_le _, Nat.zero_le _⟩ dX10_active_4 rfl ?_
  refine am_aload_n F 0 dX10_active_7 rfl rfl ?_
  refine am_iload_n F 1 dX10_active_8 rfl rfl ?_
  refine am_bipush F (v := (7 : Int32)) dX10_active_9 (by decide) ?_
  obtain ⟨v6, M5, h4, h⟩ := am_bE h
  refine am_callVi F [.int a1, .int (7 : Int32)] lyk_174 (by decide) rfl cw_X10_58 (c_X10_of l D E z a1 (7 : Int32) M2 v6 M5 h4) yn_X10_of rfl ⟨Nat.le_of_ble_eq_true rfl, Nat.le_of_ble_eq_true rfl⟩ rfl rfl (Nat.le_of_ble_eq_true rfl) ⟨Nat.zero_le _, Nat.zero_le _⟩ dX10_active_11 rfl ?_
  refine am_isub F dX10_active_14 ?_
  refine am_i2f F dX10_active_15 ?_
  refine am_aload_n F 0 dX10_active_16 rfl rfl ?_
  refine am_iload_n F 1 dX10_active_17 rfl rfl ?_
  refine am_bipush F (v := (10 : Int32)) dX10_active_18 (by decide) ?_
  obtain ⟨v9, M8, h7, h⟩ := am_bE h
  refine am_callVi F [.int a1, .int (10 : Int32)] lyk_174 (by decide) rfl cw_X10_58 (c_X10_of l D E z a1 (10 : Int32) M5 v9 M8 h7) yn_X10_of rfl ⟨Nat.le_of_ble_eq_true rfl, Nat.le_of_ble_eq_true rfl⟩ rfl rfl (Nat.le_of_ble_eq_true rfl) ⟨Nat.zero_le _, Nat.zero_le _⟩ dX10_active_20 rfl ?_
  refine am_i2f F dX10_active_23 ?_
  obtain ⟨q10, h⟩ := am_cE h
  refine am_fdiv F dX10_active_24 q10 ?_
  exact am_fret F hr h dX10_active_25
/-! AisleSchedulerModel.activeRefusal(I)I -/
abbrev rm_X10_activeRefusal : Room := { frames := 3, cells := 0, slots := 0, locals := 67 }
theorem yn_X10_activeRefusal : am_yn yX10_activeRefusal 1 := ⟨⟨by decide +kernel, by decide +kernel⟩, by decide +kernel⟩
def g_X10_activeRefusal (a1 : Int32) (M : am_M) : Option (Int32 × am_M) := (am_b (g_X10_isRobot a1 M) (fun v3 M2 => (if v3 = (0 : Int32) then (some ((am_g (am_s M2 174 0 (1 : Int32)) 174 0), (am_s M2 174 0 (1 : Int32)))) else (am_b (g_X10_of a1 (10 : Int32) M2) (fun v6 M5 => (if v6 = (0 : Int32) then (some ((am_g (am_s M5 174 0 (2 : Int32)) 174 0), (am_s M5 174 0 (2 : Int32)))) else (some ((am_g (am_s M5 174 0 (0 : Int32)) 174 0), (am_s M5 174 0 (0 : Int32))))))))))
set_option maxHeartbeats 4000000 in
set_option maxRecDepth 100000 in
theorem c_X10_activeRefusal (l : Launch) (D : va_G) (E : Nat → ClassId) (z : Nat) (a1 : Int32) (M : am_M) (r0 : Int32) (M1 : am_M) (h : g_X10_activeRefusal a1 M = some (r0, M1)) : am_Mi l yX10_activeRefusal cX10_activeRefusal 2 (some .int) rm_X10_activeRefusal D E z [.ref (z + 174), .int a1] M r0 M1 := by
  unfold g_X10_activeRefusal at h
  refine am_of (own := RX10) (by decide +kernel) rfl (by exact Nat.le_of_ble_eq_true rfl) ?_
  intro p e s m args below meth c F hr
  show am_W p l e rm_X10_activeRefusal s m args below meth c _ 2 D E z 0 0 M 0 [(0, .ref (z + 174)), (1, .int a1)] []
  refine am_aload_n F 0 dX10_activeRefusal_0 rfl rfl ?_
  refine am_aload_n F 0 dX10_activeRefusal_1 rfl rfl ?_
  refine am_iload_n F 1 dX10_activeRefusal_2 rfl rfl ?_
  obtain ⟨v3, M2, h1, h⟩ := am_bE h
  refine am_callVi F [.int a1] lyk_174 (by decide) rfl cw_X10_173 (c_X10_isRobot l D E z a1 M v3 M2 h1) yn_X10_isRobot rfl ⟨Nat.le_of_ble_eq_true rfl, Nat.le_of_ble_eq_true rfl⟩ rfl rfl (Nat.le_of_ble_eq_true rfl) ⟨Nat.zero_le _, Nat.zero_le _⟩ dX10_activeRefusal_3 rfl ?_
  refine am_if_ne F (tgt := 13) dX10_activeRefusal_6 (by decide) (fun c8 => ?_) (fun c8 => ?_)
  · have h := (if_neg c8).symm.trans h
    refine am_aload_n F 0 dX10_activeRefusal_13 rfl rfl ?_
    refine am_iload_n F 1 dX10_activeRefusal_14 rfl rfl ?_
    refine am_bipush F (v := (10 : Int32)) dX10_activeRefusal_15 (by decide) ?_
    obtain ⟨v6, M5, h4, h⟩ := am_bE h
    refine am_callVi F [.int a1, .int (10 : Int32)] lyk_174 (by decide) rfl cw_X10_58 (c_X10_of l D E z a1 (10 : Int32) M2 v6 M5 h4) yn_X10_of rfl ⟨Nat.le_of_ble_eq_true rfl, Nat.le_of_ble_eq_true rfl⟩ rfl rfl (Nat.le_of_ble_eq_true rfl) ⟨Nat.zero_le _, Nat.zero_le _⟩ dX10_activeRefusal_17 rfl ?_
    refine am_if_ne F (tgt := 27) dX10_activeRefusal_20 (by decide) (fun c7 => ?_) (fun c7 => ?_)
    · have h := (if_neg c7).symm.trans h
      refine am_iconst F (v := (0 : Int32)) dX10_activeRefusal_27 (by decide) ?_
      refine pf_X10_51 F lyk_174 dX10_activeRefusal_28 ?_
      refine am_aload_n F 0 dX10_activeRefusal_31 rfl rfl ?_
      refine gf_X10_51 F lyk_174 dX10_activeRefusal_32 ?_
      exact am_iret F hr h dX10_activeRefusal_35
    · have h := (if_pos c7).symm.trans h
      refine am_iconst F (v := (2 : Int32)) dX10_activeRefusal_23 (by decide) ?_
      refine am_goto F (tgt := 28) dX10_activeRefusal_24 (by decide) ?_
      refine pf_X10_51 F lyk_174 dX10_activeRefusal_28 ?_
      refine am_aload_n F 0 dX10_activeRefusal_31 rfl rfl ?_
      refine gf_X10_51 F lyk_174 dX10_activeRefusal_32 ?_
      exact am_iret F hr h dX10_activeRefusal_35
  · have h := (if_pos c8).symm.trans h
    refine am_iconst F (v := (1 : Int32)) dX10_activeRefusal_9 (by decide) ?_
    refine am_goto F (tgt := 28) dX10_activeRefusal_10 (by decide) ?_
    refine pf_X10_51 F lyk_174 dX10_activeRefusal_28 ?_
    refine am_aload_n F 0 dX10_activeRefusal_31 rfl rfl ?_
    refine gf_X10_51 F lyk_174 dX10_activeRefusal_32 ?_
    exact am_iret F hr h dX10_activeRefusal_35
/-! AisleSchedulerModel.activity(I)F -/
abbrev rm_X10_activity : Room := { frames := 4, cells := 0, slots := 0, locals := 88 }
theorem yn_X10_activity : am_yn yX10_activity 1 := ⟨⟨by decide +kernel, by decide +kernel⟩, by decide +kernel⟩
def g_X10_activity (a1 : Int32) (M : am_M) : Option (UInt32 × am_M) := (am_b (g_X10_activeRefusal a1 M) (fun v3 M2 => (if v3 ≤ (0 : Int32) then (am_b (g_X10_active a1 M2) (fun v6 M5 => (some (v6, M5)))) else (some (FP.fconst0, M2)))))
set_option maxHeartbeats 4000000 in
set_option maxRecDepth 100000 in
theorem c_X10_activity (l : Launch) (D : va_G) (E : Nat → ClassId) (z : Nat) (a1 : Int32) (M : am_M) (r0 : UInt32) (M1 : am_M) (h : g_X10_activity a1 M = some (r0, M1)) : am_Mf l yX10_activity cX10_activity 2 (some .float) rm_X10_activity D E z [.ref (z + 174), .int a1] M r0 M1 := by
  unfold g_X10_activity at h
  refine am_of (own := RX10) (by decide +kernel) rfl (by exact Nat.le_of_ble_eq_true rfl) ?_
  intro p e s m args below meth c F hr
  show am_W p l e rm_X10_activity s m args below meth c _ 2 D E z 0 0 M 0 [(0, .ref (z + 174)), (1, .int a1)] []
  refine am_aload_n F 0 dX10_activity_0 rfl rfl ?_
  refine am_iload_n F 1 dX10_activity_1 rfl rfl ?_
  obtain ⟨v3, M2, h1, h⟩ := am_bE h
  refine am_callVi F [.int a1] lyk_174 (by decide) rfl cw_X10_251 (c_X10_activeRefusal l D E z a1 M v3 M2 h1) yn_X10_activeRefusal rfl ⟨Nat.le_of_ble_eq_true rfl, Nat.le_of_ble_eq_true rfl⟩ rfl rfl (Nat.le_of_ble_eq_true rfl) ⟨Nat.zero_le _, Nat.zero_le _⟩ dX10_activity_2 rfl ?_
  refine am_if_le F (tgt := 12) dX10_activity_5 (by decide) (fun c7 => ?_) (fun c7 => ?_)
  · have h := (if_pos c7).symm.trans h
    refine am_aload_n F 0 dX10_activity_12 rfl rfl ?_
    refine am_iload_n F 1 dX10_activity_13 rfl rfl ?_
    obtain ⟨v6, M5, h4, h⟩ := am_bE h
    refine am_callVf F [.int a1] lyk_174 (by decide) rfl cw_X10_254 (c_X10_active l D E z a1 M2 v6 M5 h4) yn_X10_active rfl ⟨Nat.le_of_ble_eq_true rfl, Nat.le_of_ble_eq_true rfl⟩ rfl rfl (Nat.le_of_ble_eq_true rfl) ⟨Nat.zero_le _, Nat.zero_le _⟩ dX10_activity_14 rfl ?_
    exact am_fret F hr h dX10_activity_17
  · have h := (if_neg c7).symm.trans h
    refine am_fconst0 F dX10_activity_8 ?_
    refine am_goto F (tgt := 17) dX10_activity_9 (by decide) ?_
    exact am_fret F hr h dX10_activity_17
/-! AisleSchedulerModel.averageDelay()D -/
abbrev rm_X10_averageDelay : Room := { frames := 2, cells := 0, slots := 0, locals := 46 }
theorem yn_X10_averageDelay : am_yn yX10_averageDelay 0 := ⟨⟨by decide +kernel, by decide +kernel⟩, by decide +kernel⟩
def g_X10_averageDelay_L6  : Nat → Int32 → Int32 → Int32 → am_M → Option ((Int32 × Int32) × am_M)
  | 0, _, _, _, _ => none
  | n + 1, a1, a2, a3, M => (am_ci (7 : Int32) 406 (if (am_g M 175 (7 : Int32).toNatClampNeg) ≤ a3 then (some ((a1, a2), M)) else (am_b (g_X10_item a3 (4 : Int32) M) (fun v4 M3 => (if v4 = (2 : Int32) then (am_b (g_X10_item a3 (7 : Int32) M3) (fun v7 M6 => (am_b (g_X10_item a3 (2 : Int32) M6) (fun v10 M9 => (am_b (g_X10_item a3 (8 : Int32) M9) (fun v13 M12 => (g_X10_averageDelay_L6  n (a1 + (v7 - (if v10 < v13 then v13 else v10))) (a2 + (1 : Int32)) (a3 + (1 : Int32)) M12))))))) else (g_X10_averageDelay_L6  n a1 a2 (a3 + (1 : Int32)) M3))))))
set_option maxHeartbeats 4000000 in
set_option maxRecDepth 100000 in
theorem cl_X10_averageDelay_L6 {l : Launch} {p : Program} {e : Env} {s : State} {m : MethodId} {args : Array Value} {below : List Frame} {meth : Method} {c : Code} {Q : State → Prop} {D : va_G} {E : Nat → ClassId} {z : Nat} (F : am_F p s m args meth c cX10_averageDelay 4 RX10 D E z)  : ∀ (n : Nat) (a1 : Int32) (a2 : Int32) (a3 : Int32) (M : am_M) (x : Int32 × Int32) (M1 : am_M), g_X10_averageDelay_L6  n a1 a2 a3 M = some (x, M1) → (am_W p l e rm_X10_averageDelay s m args below meth c Q 4 D E z 0 0 M1 63 [(0, .ref (z + 174)), (1, .int x.1), (2, .int x.2)] []) → am_W p l e rm_X10_averageDelay s m args below meth c Q 4 D E z 0 0 M 6 [(0, .ref (z + 174)), (1, .int a1), (2, .int a2), (3, .int a3)] [] := by
  intro n
  induction n with
  | zero => intro a1 a2 a3 M x M1 h K; cases h
  | succ n ih =>
    intro a1 a2 a3 M x M1 h K
    rw [g_X10_averageDelay_L6] at h
    refine am_iload_n F 3 dX10_averageDelay_6 rfl rfl ?_
    refine am_aload_n F 0 dX10_averageDelay_7 rfl rfl ?_
    refine gf_X10_7 F lyk_174 dX10_averageDelay_8 ?_
    refine am_bipush F (v := (7 : Int32)) dX10_averageDelay_11 (by decide) ?_
    obtain ⟨q1, h⟩ := am_ciE h
    refine am_iald F lyk_175 q1 dX10_averageDelay_13 ?_
    refine am_icmp_ge F (tgt := 63) dX10_averageDelay_14 (by decide) (fun c15 => ?_) (fun c15 => ?_)
    · have h := (if_pos c15).symm.trans h
      cases h
      exact am_sub (lv' := [(0, .ref (z + 174)), (1, .int a1), (2, .int a2)]) [0, 1, 2] rfl (K)
    · have h := (if_neg c15).symm.trans h
      refine am_aload_n F 0 dX10_averageDelay_17 rfl rfl ?_
      refine am_iload_n F 3 dX10_averageDelay_18 rfl rfl ?_
      refine am_iconst F (v := (4 : Int32)) dX10_averageDelay_19 (by decide) ?_
      obtain ⟨v4, M3, h2, h⟩ := am_bE h
      refine am_callVi F [.int a3, .int (4 : Int32)] lyk_174 (by decide) rfl cw_X10_209 (c_X10_item l D E z a3 (4 : Int32) M v4 M3 h2) yn_X10_item rfl ⟨Nat.le_of_ble_eq_true rfl, Nat.le_of_ble_eq_true rfl⟩ rfl rfl (Nat.le_of_ble_eq_true rfl) ⟨Nat.zero_le _, Nat.zero_le _⟩ dX10_averageDelay_20 rfl ?_
      refine am_iconst F (v := (2 : Int32)) dX10_averageDelay_23 (by decide) ?_
      refine am_icmp_ne F (tgt := 57) dX10_averageDelay_24 (by decide) (fun c14 => ?_) (fun c14 => ?_)
      · have h := (if_neg c14).symm.trans h
        refine am_iinc F [(3, .int (a3 + (1 : Int32))), (0, .ref (z + 174)), (1, .int a1), (2, .int a2)] 3 dX10_averageDelay_57 (by decide) rfl rfl rfl ?_
        refine am_goto F (tgt := 6) dX10_averageDelay_60 (by decide) ?_
        exact am_sub (lv' := [(0, .ref (z + 174)), (1, .int a1), (2, .int a2), (3, .int (a3 + (1 : Int32)))]) [1, 2, 3, 0] rfl (ih a1 a2 (a3 + (1 : Int32)) M3 _ _ h K)
      · have h := (if_pos c14).symm.trans h
        refine am_iload_n F 1 dX10_averageDelay_27 rfl rfl ?_
        refine am_aload_n F 0 dX10_averageDelay_28 rfl rfl ?_
        refine am_iload_n F 3 dX10_averageDelay_29 rfl rfl ?_
        refine am_bipush F (v := (7 : Int32)) dX10_averageDelay_30 (by decide) ?_
        obtain ⟨v7, M6, h5, h⟩ := am_bE h
        refine am_callVi F [.int a3, .int (7 : Int32)] lyk_174 (by decide) rfl cw_X10_209 (c_X10_item l D E z a3 (7 : Int32) M3 v7 M6 h5) yn_X10_item rfl ⟨Nat.le_of_ble_eq_true rfl, Nat.le_of_ble_eq_true rfl⟩ rfl rfl (Nat.le_of_ble_eq_true rfl) ⟨Nat.zero_le _, Nat.zero_le _⟩ dX10_averageDelay_32 rfl ?_
        refine am_aload_n F 0 dX10_averageDelay_35 rfl rfl ?_
        refine am_iload_n F 3 dX10_averageDelay_36 rfl rfl ?_
        refine am_iconst F (v := (2 : Int32)) dX10_averageDelay_37 (by decide) ?_
        obtain ⟨v10, M9, h8, h⟩ := am_bE h
        refine am_callVi F [.int a3, .int (2 : Int32)] lyk_174 (by decide) rfl cw_X10_209 (c_X10_item l D E z a3 (2 : Int32) M6 v10 M9 h8) yn_X10_item rfl ⟨Nat.le_of_ble_eq_true rfl, Nat.le_of_ble_eq_true rfl⟩ rfl rfl (Nat.le_of_ble_eq_true rfl) ⟨Nat.zero_le _, Nat.zero_le _⟩ dX10_averageDelay_38 rfl ?_
        refine am_aload_n F 0 dX10_averageDelay_41 rfl rfl ?_
        refine am_iload_n F 3 dX10_averageDelay_42 rfl rfl ?_
        refine am_bipush F (v := (8 : Int32)) dX10_averageDelay_43 (by decide) ?_
        obtain ⟨v13, M12, h11, h⟩ := am_bE h
        refine am_callVi F [.int a3, .int (8 : Int32)] lyk_174 (by decide) rfl cw_X10_209 (c_X10_item l D E z a3 (8 : Int32) M9 v13 M12 h11) yn_X10_item rfl ⟨Nat.le_of_ble_eq_true rfl, Nat.le_of_ble_eq_true rfl⟩ rfl rfl (Nat.le_of_ble_eq_true rfl) ⟨Nat.zero_le _, Nat.zero_le _⟩ dX10_averageDelay_45 rfl ?_
        refine am_max F dX10_averageDelay_48 wd_1631 (Nat.le_of_ble_eq_true rfl) (Nat.le_of_ble_eq_true rfl) (Nat.le_of_ble_eq_true rfl) (Nat.le_of_ble_eq_true rfl) ?_
        refine am_isub F dX10_averageDelay_51 ?_
        refine am_iadd F dX10_averageDelay_52 ?_
        refine am_istore_n F [(1, .int (a1 + (v7 - (if v10 < v13 then v13 else v10)))), (0, .ref (z + 174)), (2, .int a2), (3, .int a3)] dX10_averageDelay_53 rfl (by decide) rfl ?_
        refine am_iinc F [(2, .int (a2 + (1 : Int32))), (1, .int (a1 + (v7 - (if v10 < v13 then v13 else v10)))), (0, .ref (z + 174)), (3, .int a3)] 2 dX10_averageDelay_54 (by decide) rfl rfl rfl ?_
        refine am_iinc F [(3, .int (a3 + (1 : Int32))), (2, .int (a2 + (1 : Int32))), (1, .int (a1 + (v7 - (if v10 < v13 then v13 else v10)))), (0, .ref (z + 174))] 3 dX10_averageDelay_57 (by decide) rfl rfl rfl ?_
        refine am_goto F (tgt := 6) dX10_averageDelay_60 (by decide) ?_
        exact am_sub (lv' := [(0, .ref (z + 174)), (1, .int (a1 + (v7 - (if v10 < v13 then v13 else v10)))), (2, .int (a2 + (1 : Int32))), (3, .int (a3 + (1 : Int32)))]) [3, 2, 1, 0] rfl (ih (a1 + (v7 - (if v10 < v13 then v13 else v10))) (a2 + (1 : Int32)) (a3 + (1 : Int32)) M12 _ _ h K)
def g_X10_averageDelay  (M : am_M) : Option (UInt64 × am_M) := (am_b (g_X10_averageDelay_L6  am_fu (0 : Int32) (0 : Int32) (0 : Int32) M) (fun x16 M17 => (if x16.2 = (0 : Int32) then (if x16.2 = (0 : Int32) then (some (FP.dconst0, (am_s M17 174 0 (1 : Int32)))) else (am_c ((FP.ddiv (FP.i2d x16.1) (FP.i2d x16.2)) &&& 0x7fffffffffffffff ≤ 0x7ff0000000000000) (some ((FP.ddiv (FP.i2d x16.1) (FP.i2d x16.2)), (am_s M17 174 0 (1 : Int32)))))) else (if x16.2 = (0 : Int32) then (some (FP.dconst0, (am_s M17 174 0 (0 : Int32)))) else (am_c ((FP.ddiv (FP.i2d x16.1) (FP.i2d x16.2)) &&& 0x7fffffffffffffff ≤ 0x7ff0000000000000) (some ((FP.ddiv (FP.i2d x16.1) (FP.i2d x16.2)), (am_s M17 174 0 (0 : Int32)))))))))
set_option maxHeartbeats 4000000 in
set_option maxRecDepth 100000 in
theorem c_X10_averageDelay (l : Launch) (D : va_G) (E : Nat → ClassId) (z : Nat)  (M : am_M) (r0 : UInt64) (M1 : am_M) (h : g_X10_averageDelay  M = some (r0, M1)) : am_Md l yX10_averageDelay cX10_averageDelay 4 (some .double) rm_X10_averageDelay D E z [.ref (z + 174)] M r0 M1 := by
  unfold g_X10_averageDelay at h
  refine am_of (own := RX10) (by decide +kernel) rfl (by exact Nat.le_of_ble_eq_true rfl) ?_
  intro p e s m args below meth c F hr
  show am_W p l e rm_X10_averageDelay s m args below meth c _ 4 D E z 0 0 M 0 [(0, .ref (z + 174))] []
  refine am_iconst F (v := (0 : Int32)) dX10_averageDelay_0 (by decide) ?_
  refine am_istore_n F [(1, .int (0 : Int32)), (0, .ref (z + 174))] dX10_averageDelay_1 rfl (by decide) rfl ?_
  refine am_iconst F (v := (0 : Int32)) dX10_averageDelay_2 (by decide) ?_
  refine am_istore_n F [(2, .int (0 : Int32)), (1, .int (0 : Int32)), (0, .ref (z + 174))] dX10_averageDelay_3 rfl (by decide) rfl ?_
  refine am_iconst F (v := (0 : Int32)) dX10_averageDelay_4 (by decide) ?_
  refine am_istore_n F [(3, .int (0 : Int32)), (2, .int (0 : Int32)), (1, .int (0 : Int32)), (0, .ref (z + 174))] dX10_averageDelay_5 rfl (by decide) rfl ?_
  obtain ⟨x16, M17, h18, h⟩ := am_bE h
  refine am_sub (lv' := [(0, .ref (z + 174)), (1, .int (0 : Int32)), (2, .int (0 : Int32)), (3, .int (0 : Int32))]) [3, 2, 1, 0] rfl (cl_X10_averageDelay_L6 F  am_fu (0 : Int32) (0 : Int32) (0 : Int32) M x16 M17 h18 ?_)
  refine am_aload_n F 0 dX10_averageDelay_63 rfl rfl ?_
  refine am_iload_n F 2 dX10_averageDelay_64 rfl rfl ?_
  refine am_if_ne F (tgt := 72) dX10_averageDelay_65 (by decide) (fun c23 => ?_) (fun c23 => ?_)
  · have h := (if_neg c23).symm.trans h
    refine am_iconst F (v := (0 : Int32)) dX10_averageDelay_72 (by decide) ?_
    refine pf_X10_51 F lyk_174 dX10_averageDelay_73 ?_
    refine am_iload_n F 2 dX10_averageDelay_76 rfl rfl ?_
    refine am_if_ne F (tgt := 84) dX10_averageDelay_77 (by decide) (fun c20 => ?_) (fun c20 => ?_)
    · have h := (if_neg c20).symm.trans h
      refine am_iload_n F 1 dX10_averageDelay_84 rfl rfl ?_
      refine am_i2d F dX10_averageDelay_85 ?_
      refine am_iload_n F 2 dX10_averageDelay_86 rfl rfl ?_
      refine am_i2d F dX10_averageDelay_87 ?_
      obtain ⟨q19, h⟩ := am_cE h
      refine am_ddiv F dX10_averageDelay_88 q19 ?_
      exact am_dret F hr h dX10_averageDelay_89
    · have h := (if_pos c20).symm.trans h
      refine am_dconst0 F dX10_averageDelay_80 ?_
      refine am_goto F (tgt := 89) dX10_averageDelay_81 (by decide) ?_
      exact am_dret F hr h dX10_averageDelay_89
  · have h := (if_pos c23).symm.trans h
    refine am_iconst F (v := (1 : Int32)) dX10_averageDelay_68 (by decide) ?_
    refine am_goto F (tgt := 73) dX10_averageDelay_69 (by decide) ?_
    refine pf_X10_51 F lyk_174 dX10_averageDelay_73 ?_
    refine am_iload_n F 2 dX10_averageDelay_76 rfl rfl ?_
    refine am_if_ne F (tgt := 84) dX10_averageDelay_77 (by decide) (fun c22 => ?_) (fun c22 => ?_)
    · have h := (if_neg c22).symm.trans h
      refine am_iload_n F 1 dX10_averageDelay_84 rfl rfl ?_
      refine am_i2d F dX10_averageDelay_85 ?_
      refine am_iload_n F 2 dX10_averageDelay_86 rfl rfl ?_
      refine am_i2d F dX10_averageDelay_87 ?_
      obtain ⟨q21, h⟩ := am_cE h
      refine am_ddiv F dX10_averageDelay_88 q21 ?_
      exact am_dret F hr h dX10_averageDelay_89
    · have h := (if_pos c22).symm.trans h
      refine am_dconst0 F dX10_averageDelay_80 ?_
      refine am_goto F (tgt := 89) dX10_averageDelay_81 (by decide) ?_
      exact am_dret F hr h dX10_averageDelay_89
/-! AisleSchedulerModel.visits(I)I -/
abbrev rm_X10_visits : Room := { frames := 3, cells := 0, slots := 0, locals := 66 }
theorem yn_X10_visits : am_yn yX10_visits 1 := ⟨⟨by decide +kernel, by decide +kernel⟩, by decide +kernel⟩
def g_X10_visits (a1 : Int32) (M : am_M) : Option (Int32 × am_M) := (am_b (g_X10_isCell a1 (am_s M 174 0 (0 : Int32))) (fun v3 M2 => (if v3 = (0 : Int32) then (am_b (g_X10_fails (1 : Int32) M2) (fun v6 M5 => (some (v6, M5)))) else (am_ci ((48 : Int32) + a1) 406 (some ((am_g M2 175 ((48 : Int32) + a1).toNatClampNeg), M2))))))
set_option maxHeartbeats 4000000 in
set_option maxRecDepth 100000 in
theorem c_X10_visits (l : Launch) (D : va_G) (E : Nat → ClassId) (z : Nat) (a1 : Int32) (M : am_M) (r0 : Int32) (M1 : am_M) (h : g_X10_visits a1 M = some (r0, M1)) : am_Mi l yX10_visits cX10_visits 2 (some .int) rm_X10_visits D E z [.ref (z + 174), .int a1] M r0 M1 := by
  unfold g_X10_visits at h
  refine am_of (own := RX10) (by decide +kernel) rfl (by exact Nat.le_of_ble_eq_true rfl) ?_
  intro p e s m args below meth c F hr
  show am_W p l e rm_X10_visits s m args below meth c _ 2 D E z 0 0 M 0 [(0, .ref (z + 174)), (1, .int a1)] []
  refine am_aload_n F 0 dX10_visits_0 rfl rfl ?_
  refine am_iconst F (v := (0 : Int32)) dX10_visits_1 (by decide) ?_
  refine pf_X10_51 F lyk_174 dX10_visits_2 ?_
  refine am_iload_n F 1 dX10_visits_5 rfl rfl ?_
  obtain ⟨v3, M2, h1, h⟩ := am_bE h
  refine am_callSi F [.int a1] cw_X10_161 rfl (c_X10_isCell l D E z a1 (am_s M 174 0 (0 : Int32)) v3 M2 h1) yn_X10_isCell rfl ⟨Nat.le_of_ble_eq_true rfl, Nat.le_of_ble_eq_true rfl⟩ rfl rfl (Nat.le_of_ble_eq_true rfl) ⟨Nat.zero_le _, Nat.zero_le _⟩ dX10_visits_6 rfl ?_
  refine am_if_eq F (tgt := 24) dX10_visits_9 (by decide) (fun c8 => ?_) (fun c8 => ?_)
  · have h := (if_pos c8).symm.trans h
    refine am_aload_n F 0 dX10_visits_24 rfl rfl ?_
    refine am_iconst F (v := (1 : Int32)) dX10_visits_25 (by decide) ?_
    obtain ⟨v6, M5, h4, h⟩ := am_bE h
    refine am_callVi F [.int (1 : Int32)] lyk_174 (by decide) rfl cw_X10_164 (c_X10_fails l D E z (1 : Int32) M2 v6 M5 h4) yn_X10_fails rfl ⟨Nat.le_of_ble_eq_true rfl, Nat.le_of_ble_eq_true rfl⟩ rfl rfl (Nat.le_of_ble_eq_true rfl) ⟨Nat.zero_le _, Nat.zero_le _⟩ dX10_visits_26 rfl ?_
    exact am_iret F hr h dX10_visits_29
  · have h := (if_neg c8).symm.trans h
    refine am_aload_n F 0 dX10_visits_12 rfl rfl ?_
    refine gf_X10_7 F lyk_174 dX10_visits_13 ?_
    refine am_bipush F (v := (48 : Int32)) dX10_visits_16 (by decide) ?_
    refine am_iload_n F 1 dX10_visits_18 rfl rfl ?_
    refine am_iadd F dX10_visits_19 ?_
    obtain ⟨q7, h⟩ := am_ciE h
    refine am_iald F lyk_175 q7 dX10_visits_20 ?_
    refine am_goto F (tgt := 29) dX10_visits_21 (by decide) ?_
    exact am_iret F hr h dX10_visits_29
/-! AisleSchedulerModel.busiestCell()I -/
abbrev rm_X10_busiestCell : Room := { frames := 1, cells := 0, slots := 0, locals := 24 }
theorem yn_X10_busiestCell : am_yn yX10_busiestCell 0 := ⟨⟨by decide +kernel, by decide +kernel⟩, by decide +kernel⟩
def g_X10_busiestCell_L9  : Nat → Int32 → Int32 → am_M → Option ((Int32) × am_M)
  | 0, _, _, _ => none
  | n + 1, a1, a2, M => (if (40 : Int32) ≤ a2 then (some (a1, M)) else (am_ci ((48 : Int32) + a2) 406 (am_ci ((48 : Int32) + a1) 406 (if (am_g M 175 ((48 : Int32) + a2).toNatClampNeg) ≤ (am_g M 175 ((48 : Int32) + a1).toNatClampNeg) then (g_X10_busiestCell_L9  n a1 (a2 + (1 : Int32)) M) else (g_X10_busiestCell_L9  n a2 (a2 + (1 : Int32)) M)))))
set_option maxHeartbeats 4000000 in
set_option maxRecDepth 100000 in
theorem cl_X10_busiestCell_L9 {l : Launch} {p : Program} {e : Env} {s : State} {m : MethodId} {args : Array Value} {below : List Frame} {meth : Method} {c : Code} {Q : State → Prop} {D : va_G} {E : Nat → ClassId} {z : Nat} (F : am_F p s m args meth c cX10_busiestCell 3 RX10 D E z)  : ∀ (n : Nat) (a1 : Int32) (a2 : Int32) (M : am_M) (x : Int32) (M1 : am_M), g_X10_busiestCell_L9  n a1 a2 M = some (x, M1) → (am_W p l e rm_X10_busiestCell s m args below meth c Q 3 D E z 0 0 M1 48 [(1, .int x)] []) → am_W p l e rm_X10_busiestCell s m args below meth c Q 3 D E z 0 0 M 9 [(0, .ref (z + 174)), (1, .int a1), (2, .int a2)] [] := by
  intro n
  induction n with
  | zero => intro a1 a2 M x M1 h K; cases h
  | succ n ih =>
    intro a1 a2 M x M1 h K
    rw [g_X10_busiestCell_L9] at h
    refine am_iload_n F 2 dX10_busiestCell_9 rfl rfl ?_
    refine am_bipush F (v := (40 : Int32)) dX10_busiestCell_10 (by decide) ?_
    refine am_icmp_ge F (tgt := 48) dX10_busiestCell_12 (by decide) (fun c4 => ?_) (fun c4 => ?_)
    · have h := (if_pos c4).symm.trans h
      cases h
      exact am_sub (lv' := [(1, .int a1)]) [1] rfl (K)
    · have h := (if_neg c4).symm.trans h
      refine am_aload_n F 0 dX10_busiestCell_15 rfl rfl ?_
      refine gf_X10_7 F lyk_174 dX10_busiestCell_16 ?_
      refine am_bipush F (v := (48 : Int32)) dX10_busiestCell_19 (by decide) ?_
      refine am_iload_n F 2 dX10_busiestCell_21 rfl rfl ?_
      refine am_iadd F dX10_busiestCell_22 ?_
      obtain ⟨q1, h⟩ := am_ciE h
      refine am_iald F lyk_175 q1 dX10_busiestCell_23 ?_
      refine am_aload_n F 0 dX10_busiestCell_24 rfl rfl ?_
      refine gf_X10_7 F lyk_174 dX10_busiestCell_25 ?_
      refine am_bipush F (v := (48 : Int32)) dX10_busiestCell_28 (by decide) ?_
      refine am_iload_n F 1 dX10_busiestCell_30 rfl rfl ?_
      refine am_iadd F dX10_busiestCell_31 ?_
      obtain ⟨q2, h⟩ := am_ciE h
      refine am_iald F lyk_175 q2 dX10_busiestCell_32 ?_
      refine am_icmp_le F (tgt := 40) dX10_busiestCell_33 (by decide) (fun c3 => ?_) (fun c3 => ?_)
      · have h := (if_pos c3).symm.trans h
        refine am_iload_n F 1 dX10_busiestCell_40 rfl rfl ?_
        refine am_istore_n F [(1, .int a1), (0, .ref (z + 174)), (2, .int a2)] dX10_busiestCell_41 rfl (by decide) rfl ?_
        refine am_iinc F [(2, .int (a2 + (1 : Int32))), (1, .int a1), (0, .ref (z + 174))] 2 dX10_busiestCell_42 (by decide) rfl rfl rfl ?_
        refine am_goto F (tgt := 9) dX10_busiestCell_45 (by decide) ?_
        exact am_sub (lv' := [(0, .ref (z + 174)), (1, .int a1), (2, .int (a2 + (1 : Int32)))]) [2, 1, 0] rfl (ih a1 (a2 + (1 : Int32)) M _ _ h K)
      · have h := (if_neg c3).symm.trans h
        refine am_iload_n F 2 dX10_busiestCell_36 rfl rfl ?_
        refine am_goto F (tgt := 41) dX10_busiestCell_37 (by decide) ?_
        refine am_istore_n F [(1, .int a2), (0, .ref (z + 174)), (2, .int a2)] dX10_busiestCell_41 rfl (by decide) rfl ?_
        refine am_iinc F [(2, .int (a2 + (1 : Int32))), (1, .int a2), (0, .ref (z + 174))] 2 dX10_busiestCell_42 (by decide) rfl rfl rfl ?_
        refine am_goto F (tgt := 9) dX10_busiestCell_45 (by decide) ?_
        exact am_sub (lv' := [(0, .ref (z + 174)), (1, .int a2), (2, .int (a2 + (1 : Int32)))]) [2, 1, 0] rfl (ih a2 (a2 + (1 : Int32)) M _ _ h K)
def g_X10_busiestCell  (M : am_M) : Option (Int32 × am_M) := (am_b (g_X10_busiestCell_L9  am_fu (0 : Int32) (1 : Int32) (am_s M 174 0 (0 : Int32))) (fun x5 M6 => (some (x5, M6))))
set_option maxHeartbeats 4000000 in
set_option maxRecDepth 100000 in
theorem c_X10_busiestCell (l : Launch) (D : va_G) (E : Nat → ClassId) (z : Nat)  (M : am_M) (r0 : Int32) (M1 : am_M) (h : g_X10_busiestCell  M = some (r0, M1)) : am_Mi l yX10_busiestCell cX10_busiestCell 3 (some .int) rm_X10_busiestCell D E z [.ref (z + 174)] M r0 M1 := by
  unfold g_X10_busiestCell at h
  refine am_of (own := RX10) (by decide +kernel) rfl (by exact Nat.le_of_ble_eq_true rfl) ?_
  intro p e s m args below meth c F hr
  show am_W p l e rm_X10_busiestCell s m args below meth c _ 3 D E z 0 0 M 0 [(0, .ref (z + 174))] []
  refine am_aload_n F 0 dX10_busiestCell_0 rfl rfl ?_
  refine am_iconst F (v := (0 : Int32)) dX10_busiestCell_1 (by decide) ?_
  refine pf_X10_51 F lyk_174 dX10_busiestCell_2 ?_
  refine am_iconst F (v := (0 : Int32)) dX10_busiestCell_5 (by decide) ?_
  refine am_istore_n F [(1, .int (0 : Int32)), (0, .ref (z + 174))] dX10_busiestCell_6 rfl (by decide) rfl ?_
  refine am_iconst F (v := (1 : Int32)) dX10_busiestCell_7 (by decide) ?_
  refine am_istore_n F [(2, .int (1 : Int32)), (1, .int (0 : Int32)), (0, .ref (z + 174))] dX10_busiestCell_8 rfl (by decide) rfl ?_
  obtain ⟨x5, M6, h7, h⟩ := am_bE h
  refine am_sub (lv' := [(0, .ref (z + 174)), (1, .int (0 : Int32)), (2, .int (1 : Int32))]) [2, 1, 0] rfl (cl_X10_busiestCell_L9 F  am_fu (0 : Int32) (1 : Int32) (am_s M 174 0 (0 : Int32)) x5 M6 h7 ?_)
  refine am_iload_n F 0 dX10_busiestCell_48 rfl rfl ?_
  exact am_iret F hr h dX10_busiestCell_49
/-! AisleSchedulerModel.isPlace(II)Z -/
abbrev rm_X10_isPlace : Room := { frames := 2, cells := 0, slots := 0, locals := 46 }
theorem yn_X10_isPlace : am_yn yX10_isPlace 2 := ⟨⟨by decide +kernel, by decide +kernel⟩, by decide +kernel⟩
def g_X10_isPlace (a0 : Int32) (a1 : Int32) (M : am_M) : Option (Int32 × am_M) := (am_b (g_X10_in a0 (0 : Int32) (1 : Int32) M) (fun v3 M2 => (if v3 = (0 : Int32) then (some ((0 : Int32), M2)) else (am_b (g_X10_in a1 (0 : Int32) (2 : Int32) M2) (fun v6 M5 => (if v6 = (0 : Int32) then (some ((0 : Int32), M5)) else (some ((1 : Int32), M5))))))))
set_option maxHeartbeats 4000000 in
set_option maxRecDepth 100000 in
theorem c_X10_isPlace (l : Launch) (D : va_G) (E : Nat → ClassId) (z : Nat) (a0 : Int32) (a1 : Int32) (M : am_M) (r0 : Int32) (M1 : am_M) (h : g_X10_isPlace a0 a1 M = some (r0, M1)) : am_Mi l yX10_isPlace cX10_isPlace 2 (some .boolean) rm_X10_isPlace D E z [.int a0, .int a1] M r0 M1 := by
  unfold g_X10_isPlace at h
  refine am_of (own := RX10) (by decide +kernel) rfl (by exact Nat.le_of_ble_eq_true rfl) ?_
  intro p e s m args below meth c F hr
  show am_W p l e rm_X10_isPlace s m args below meth c _ 2 D E z 0 0 M 0 [(0, .int a0), (1, .int a1)] []
  refine am_iload_n F 0 dX10_isPlace_0 rfl rfl ?_
  refine am_iconst F (v := (0 : Int32)) dX10_isPlace_1 (by decide) ?_
  refine am_iconst F (v := (1 : Int32)) dX10_isPlace_2 (by decide) ?_
  obtain ⟨v3, M2, h1, h⟩ := am_bE h
  refine am_callSi F [.int a0, .int (0 : Int32), .int (1 : Int32)] cw_X10_54 rfl (c_X10_in l D E z a0 (0 : Int32) (1 : Int32) M v3 M2 h1) yn_X10_in rfl ⟨Nat.le_of_ble_eq_true rfl, Nat.le_of_ble_eq_true rfl⟩ rfl rfl (Nat.le_of_ble_eq_true rfl) ⟨Nat.zero_le _, Nat.zero_le _⟩ dX10_isPlace_3 rfl ?_
  refine am_if_eq F (tgt := 22) dX10_isPlace_6 (by decide) (fun c8 => ?_) (fun c8 => ?_)
  · have h := (if_pos c8).symm.trans h
    refine am_iconst F (v := (0 : Int32)) dX10_isPlace_22 (by decide) ?_
    exact am_zret F hr (by decide) h dX10_isPlace_23
  · have h := (if_neg c8).symm.trans h
    refine am_iload_n F 1 dX10_isPlace_9 rfl rfl ?_
    refine am_iconst F (v := (0 : Int32)) dX10_isPlace_10 (by decide) ?_
    refine am_iconst F (v := (2 : Int32)) dX10_isPlace_11 (by decide) ?_
    obtain ⟨v6, M5, h4, h⟩ := am_bE h
    refine am_callSi F [.int a1, .int (0 : Int32), .int (2 : Int32)] cw_X10_54 rfl (c_X10_in l D E z a1 (0 : Int32) (2 : Int32) M2 v6 M5 h4) yn_X10_in rfl ⟨Nat.le_of_ble_eq_true rfl, Nat.le_of_ble_eq_true rfl⟩ rfl rfl (Nat.le_of_ble_eq_true rfl) ⟨Nat.zero_le _, Nat.zero_le _⟩ dX10_isPlace_12 rfl ?_
    refine am_if_eq F (tgt := 22) dX10_isPlace_15 (by decide) (fun c7 => ?_) (fun c7 => ?_)
    · have h := (if_pos c7).symm.trans h
      refine am_iconst F (v := (0 : Int32)) dX10_isPlace_22 (by decide) ?_
      exact am_zret F hr (by decide) h dX10_isPlace_23
    · have h := (if_neg c7).symm.trans h
      refine am_iconst F (v := (1 : Int32)) dX10_isPlace_18 (by decide) ?_
      refine am_goto F (tgt := 23) dX10_isPlace_19 (by decide) ?_
      exact am_zret F hr (by decide) h dX10_isPlace_23
/-! AisleSchedulerModel.sample(III)I -/
abbrev rm_X10_sample : Room := { frames := 3, cells := 0, slots := 0, locals := 67 }
theorem yn_X10_sample : am_yn yX10_sample 3 := ⟨⟨by decide +kernel, by decide +kernel⟩, by decide +kernel⟩
def g_X10_sample_L126 (a1 : Int32) : Nat → Int32 → Int32 → am_M → Option ((Int32) × am_M)
  | 0, _, _, _ => none
  | n + 1, a5, a6, M => (if (3 : Int32) ≤ a6 then (some (a5, M)) else (am_ci (((12 : Int32) * a1) + ((4 : Int32) * a6)) 24 (if (am_g M 178 (((12 : Int32) * a1) + ((4 : Int32) * a6)).toNatClampNeg) = (-1 : Int32) then (g_X10_sample_L126 a1 n (a5 + (0 : Int32)) (a6 + (1 : Int32)) M) else (g_X10_sample_L126 a1 n (a5 + (1 : Int32)) (a6 + (1 : Int32)) M))))
set_option maxHeartbeats 4000000 in
set_option maxRecDepth 100000 in
theorem cl_X10_sample_L126 {l : Launch} {p : Program} {e : Env} {s : State} {m : MethodId} {args : Array Value} {below : List Frame} {meth : Method} {c : Code} {Q : State → Prop} {D : va_G} {E : Nat → ClassId} {z : Nat} (F : am_F p s m args meth c cX10_sample 7 RX10 D E z) (a1 : Int32) : ∀ (n : Nat) (a5 : Int32) (a6 : Int32) (M : am_M) (x : Int32) (M1 : am_M), g_X10_sample_L126 a1 n a5 a6 M = some (x, M1) → (am_W p l e rm_X10_sample s m args below meth c Q 7 D E z 0 0 M1 166 [(5, .int x)] []) → am_W p l e rm_X10_sample s m args below meth c Q 7 D E z 0 0 M 126 [(0, .ref (z + 174)), (1, .int a1), (5, .int a5), (6, .int a6)] [] := by
  intro n
  induction n with
  | zero => intro a5 a6 M x M1 h K; cases h
  | succ n ih =>
    intro a5 a6 M x M1 h K
    rw [g_X10_sample_L126] at h
    refine am_iload F 3 dX10_sample_126 rfl ?_
    refine am_iconst F (v := (3 : Int32)) dX10_sample_128 (by decide) ?_
    refine am_icmp_ge F (tgt := 166) dX10_sample_129 (by decide) (fun c26 => ?_) (fun c26 => ?_)
    · have h := (if_pos c26).symm.trans h
      cases h
      exact am_sub (lv' := [(5, .int a5)]) [2] rfl (K)
    · have h := (if_neg c26).symm.trans h
      refine am_iload F 2 dX10_sample_132 rfl ?_
      refine am_aload_n F 0 dX10_sample_134 rfl rfl ?_
      refine gf_X10_19 F lyk_174 dX10_sample_135 ?_
      refine am_bipush F (v := (12 : Int32)) dX10_sample_138 (by decide) ?_
      refine am_iload_n F 1 dX10_sample_140 rfl rfl ?_
      refine am_imul F dX10_sample_141 ?_
      refine am_iconst F (v := (4 : Int32)) dX10_sample_142 (by decide) ?_
      refine am_iload F 3 dX10_sample_143 rfl ?_
      refine am_imul F dX10_sample_145 ?_
      refine am_iadd F dX10_sample_146 ?_
      obtain ⟨q24, h⟩ := am_ciE h
      refine am_iald F lyk_178 q24 dX10_sample_147 ?_
      refine am_iconst F (v := (-1 : Int32)) dX10_sample_148 (by decide) ?_
      refine am_icmp_eq F (tgt := 156) dX10_sample_149 (by decide) (fun c25 => ?_) (fun c25 => ?_)
      · have h := (if_pos c25).symm.trans h
        refine am_iconst F (v := (0 : Int32)) dX10_sample_156 (by decide) ?_
        refine am_iadd F dX10_sample_157 ?_
        refine am_istore F [(5, .int (a5 + (0 : Int32))), (0, .ref (z + 174)), (1, .int a1), (6, .int a6)] dX10_sample_158 (by decide) rfl ?_
        refine am_iinc F [(6, .int (a6 + (1 : Int32))), (5, .int (a5 + (0 : Int32))), (0, .ref (z + 174)), (1, .int a1)] 3 dX10_sample_160 (by decide) rfl rfl rfl ?_
        refine am_goto F (tgt := 126) dX10_sample_163 (by decide) ?_
        exact am_sub (lv' := [(0, .ref (z + 174)), (1, .int a1), (5, .int (a5 + (0 : Int32))), (6, .int (a6 + (1 : Int32)))]) [2, 3, 1, 0] rfl (ih (a5 + (0 : Int32)) (a6 + (1 : Int32)) M _ _ h K)
      · have h := (if_neg c25).symm.trans h
        refine am_iconst F (v := (1 : Int32)) dX10_sample_152 (by decide) ?_
        refine am_goto F (tgt := 157) dX10_sample_153 (by decide) ?_
        refine am_iadd F dX10_sample_157 ?_
        refine am_istore F [(5, .int (a5 + (1 : Int32))), (0, .ref (z + 174)), (1, .int a1), (6, .int a6)] dX10_sample_158 (by decide) rfl ?_
        refine am_iinc F [(6, .int (a6 + (1 : Int32))), (5, .int (a5 + (1 : Int32))), (0, .ref (z + 174)), (1, .int a1)] 3 dX10_sample_160 (by decide) rfl rfl rfl ?_
        refine am_goto F (tgt := 126) dX10_sample_163 (by decide) ?_
        exact am_sub (lv' := [(0, .ref (z + 174)), (1, .int a1), (5, .int (a5 + (1 : Int32))), (6, .int (a6 + (1 : Int32)))]) [2, 3, 1, 0] rfl (ih (a5 + (1 : Int32)) (a6 + (1 : Int32)) M _ _ h K)
def g_X10_sample_J89 (a1 : Int32) (a3 : Int32) (a4 : Int32) (as1 : Int32) (as2 : Int32) (M : am_M) : Option (Int32 × am_M) := (am_ci as1 24 (am_b (g_X10_of a3 (1 : Int32) (am_s M 178 as1.toNatClampNeg as2)) (fun v20 M19 => (am_ci (a4 + (2 : Int32)) 24 (am_ci (0 : Int32) 406 (am_ci (a4 + (3 : Int32)) 24 (am_b (g_X10_sample_L126 a1 am_fu (0 : Int32) (0 : Int32) (am_s (am_s M19 178 (a4 + (2 : Int32)).toNatClampNeg v20) 178 (a4 + (3 : Int32)).toNatClampNeg (am_g (am_s M19 178 (a4 + (2 : Int32)).toNatClampNeg v20) 175 (0 : Int32).toNatClampNeg))) (fun x27 M28 => (some (x27, M28))))))))))
set_option maxHeartbeats 4000000 in
set_option maxRecDepth 100000 in
theorem cj_X10_sample_J89 {l : Launch} {p : Program} {e : Env} {s : State} {m : MethodId} {args : Array Value} {below : List Frame} {meth : Method} {c : Code} {D : va_G} {E : Nat → ClassId} {z : Nat} (F : am_F p s m args meth c cX10_sample 7 RX10 D E z) (hr : meth.sig.returnType = (some .int)) (a1 : Int32) (a3 : Int32) (a4 : Int32) (as1 : Int32) (as2 : Int32) (M : am_M) (r0 : Int32) (M1 : am_M) (h : g_X10_sample_J89 a1 a3 a4 as1 as2 M = some (r0, M1)) : am_W p l e rm_X10_sample s m args below meth c (MQ below (va_Qi (fun (r9 : Int32) (u : am_M) => r9 = r0 ∧ u = M1) (am_BQ z E D) (fun q => z ≤ q)) args s 0 0 (fun q => z ≤ q)) 7 D E z 0 0 M 89 [(0, .ref (z + 174)), (1, .int a1), (3, .int a3), (4, .int a4)] [.int as2, .int as1, .ref (z + 178)] := by
  unfold g_X10_sample_J89 at h
  obtain ⟨q17, h⟩ := am_ciE h
  refine am_iast F lyk_178 q17 dX10_sample_89 ?_
  refine am_aload_n F 0 dX10_sample_90 rfl rfl ?_
  refine gf_X10_19 F lyk_174 dX10_sample_91 ?_
  refine am_iload F 3 dX10_sample_94 rfl ?_
  refine am_iconst F (v := (2 : Int32)) dX10_sample_96 (by decide) ?_
  refine am_iadd F dX10_sample_97 ?_
  refine am_aload_n F 0 dX10_sample_98 rfl rfl ?_
  refine am_iload_n F 2 dX10_sample_99 rfl rfl ?_
  refine am_iconst F (v := (1 : Int32)) dX10_sample_100 (by decide) ?_
  obtain ⟨v20, M19, h18, h⟩ := am_bE h
  refine am_callVi F [.int a3, .int (1 : Int32)] lyk_174 (by decide) rfl cw_X10_58 (c_X10_of l D E z a3 (1 : Int32) (am_s M 178 as1.toNatClampNeg as2) v20 M19 h18) yn_X10_of rfl ⟨Nat.le_of_ble_eq_true rfl, Nat.le_of_ble_eq_true rfl⟩ rfl rfl (Nat.le_of_ble_eq_true rfl) ⟨Nat.zero_le _, Nat.zero_le _⟩ dX10_sample_101 rfl ?_
  obtain ⟨q21, h⟩ := am_ciE h
  refine am_iast F lyk_178 q21 dX10_sample_104 ?_
  refine am_aload_n F 0 dX10_sample_105 rfl rfl ?_
  refine gf_X10_19 F lyk_174 dX10_sample_106 ?_
  refine am_iload F 3 dX10_sample_109 rfl ?_
  refine am_iconst F (v := (3 : Int32)) dX10_sample_111 (by decide) ?_
  refine am_iadd F dX10_sample_112 ?_
  refine am_aload_n F 0 dX10_sample_113 rfl rfl ?_
  refine gf_X10_7 F lyk_174 dX10_sample_114 ?_
  refine am_iconst F (v := (0 : Int32)) dX10_sample_117 (by decide) ?_
  obtain ⟨q22, h⟩ := am_ciE h
  refine am_iald F lyk_175 q22 dX10_sample_118 ?_
  obtain ⟨q23, h⟩ := am_ciE h
  refine am_iast F lyk_178 q23 dX10_sample_119 ?_
  refine am_iconst F (v := (0 : Int32)) dX10_sample_120 (by decide) ?_
  refine am_istore F [(5, .int (0 : Int32)), (0, .ref (z + 174)), (1, .int a1), (3, .int a3), (4, .int a4)] dX10_sample_121 (by decide) rfl ?_
  refine am_iconst F (v := (0 : Int32)) dX10_sample_123 (by decide) ?_
  refine am_istore F [(6, .int (0 : Int32)), (5, .int (0 : Int32)), (0, .ref (z + 174)), (1, .int a1), (3, .int a3), (4, .int a4)] dX10_sample_124 (by decide) rfl ?_
  obtain ⟨x27, M28, h29, h⟩ := am_bE h
  refine am_sub (lv' := [(0, .ref (z + 174)), (1, .int a1), (5, .int (0 : Int32)), (6, .int (0 : Int32))]) [2, 3, 1, 0] rfl (cl_X10_sample_L126 F a1 am_fu (0 : Int32) (0 : Int32) (am_s (am_s M19 178 (a4 + (2 : Int32)).toNatClampNeg v20) 178 (a4 + (3 : Int32)).toNatClampNeg (am_g (am_s M19 178 (a4 + (2 : Int32)).toNatClampNeg v20) 175 (0 : Int32).toNatClampNeg)) x27 M28 h29 ?_)
  refine am_iload F 0 dX10_sample_166 rfl ?_
  exact am_iret F hr h dX10_sample_168
def g_X10_sample_J45 (a1 : Int32) (a2 : Int32) (a3 : Int32) (M : am_M) : Option (Int32 × am_M) := (am_ci (((12 : Int32) * a1) + ((4 : Int32) * a2)) 24 (am_b (g_X10_isInLift a3 (am_s M 178 (((12 : Int32) * a1) + ((4 : Int32) * a2)).toNatClampNeg a3)) (fun v13 M12 => (if v13 = (0 : Int32) then (am_b (g_X10_of a3 (0 : Int32) M12) (fun v16 M15 => (g_X10_sample_J89 a1 a3 (((12 : Int32) * a1) + ((4 : Int32) * a2)) ((((12 : Int32) * a1) + ((4 : Int32) * a2)) + (1 : Int32)) v16 M15))) else (g_X10_sample_J89 a1 a3 (((12 : Int32) * a1) + ((4 : Int32) * a2)) ((((12 : Int32) * a1) + ((4 : Int32) * a2)) + (1 : Int32)) (-1 : Int32) M12)))))
set_option maxHeartbeats 4000000 in
set_option maxRecDepth 100000 in
theorem cj_X10_sample_J45 {l : Launch} {p : Program} {e : Env} {s : State} {m : MethodId} {args : Array Value} {below : List Frame} {meth : Method} {c : Code} {D : va_G} {E : Nat → ClassId} {z : Nat} (F : am_F p s m args meth c cX10_sample 7 RX10 D E z) (hr : meth.sig.returnType = (some .int)) (a1 : Int32) (a2 : Int32) (a3 : Int32) (M : am_M) (r0 : Int32) (M1 : am_M) (h : g_X10_sample_J45 a1 a2 a3 M = some (r0, M1)) : am_W p l e rm_X10_sample s m args below meth c (MQ below (va_Qi (fun (r9 : Int32) (u : am_M) => r9 = r0 ∧ u = M1) (am_BQ z E D) (fun q => z ≤ q)) args s 0 0 (fun q => z ≤ q)) 7 D E z 0 0 M 45 [(0, .ref (z + 174)), (1, .int a1), (2, .int a2), (3, .int a3)] [] := by
  unfold g_X10_sample_J45 at h
  refine am_bipush F (v := (12 : Int32)) dX10_sample_45 (by decide) ?_
  refine am_iload_n F 1 dX10_sample_47 rfl rfl ?_
  refine am_imul F dX10_sample_48 ?_
  refine am_iconst F (v := (4 : Int32)) dX10_sample_49 (by decide) ?_
  refine am_iload_n F 2 dX10_sample_50 rfl rfl ?_
  refine am_imul F dX10_sample_51 ?_
  refine am_iadd F dX10_sample_52 ?_
  refine am_istore F [(4, .int (((12 : Int32) * a1) + ((4 : Int32) * a2))), (0, .ref (z + 174)), (1, .int a1), (2, .int a2), (3, .int a3)] dX10_sample_53 (by decide) rfl ?_
  refine am_aload_n F 1 dX10_sample_55 rfl rfl ?_
  refine gf_X10_19 F lyk_174 dX10_sample_56 ?_
  refine am_iload F 0 dX10_sample_59 rfl ?_
  refine am_iload_n F 4 dX10_sample_61 rfl rfl ?_
  obtain ⟨q10, h⟩ := am_ciE h
  refine am_iast F lyk_178 q10 dX10_sample_62 ?_
  refine am_aload_n F 1 dX10_sample_63 rfl rfl ?_
  refine gf_X10_19 F lyk_174 dX10_sample_64 ?_
  refine am_iload F 0 dX10_sample_67 rfl ?_
  refine am_iconst F (v := (1 : Int32)) dX10_sample_69 (by decide) ?_
  refine am_iadd F dX10_sample_70 ?_
  refine am_aload_n F 1 dX10_sample_71 rfl rfl ?_
  refine am_iload_n F 4 dX10_sample_72 rfl rfl ?_
  obtain ⟨v13, M12, h11, h⟩ := am_bE h
  refine am_callVi F [.int a3] lyk_174 (by decide) rfl cw_X10_151 (c_X10_isInLift l D E z a3 (am_s M 178 (((12 : Int32) * a1) + ((4 : Int32) * a2)).toNatClampNeg a3) v13 M12 h11) yn_X10_isInLift rfl ⟨Nat.le_of_ble_eq_true rfl, Nat.le_of_ble_eq_true rfl⟩ rfl rfl (Nat.le_of_ble_eq_true rfl) ⟨Nat.zero_le _, Nat.zero_le _⟩ dX10_sample_73 rfl ?_
  refine am_if_eq F (tgt := 83) dX10_sample_76 (by decide) (fun c30 => ?_) (fun c30 => ?_)
  · have h := (if_pos c30).symm.trans h
    refine am_aload_n F 1 dX10_sample_83 rfl rfl ?_
    refine am_iload_n F 4 dX10_sample_84 rfl rfl ?_
    refine am_iconst F (v := (0 : Int32)) dX10_sample_85 (by decide) ?_
    obtain ⟨v16, M15, h14, h⟩ := am_bE h
    refine am_callVi F [.int a3, .int (0 : Int32)] lyk_174 (by decide) rfl cw_X10_58 (c_X10_of l D E z a3 (0 : Int32) M12 v16 M15 h14) yn_X10_of rfl ⟨Nat.le_of_ble_eq_true rfl, Nat.le_of_ble_eq_true rfl⟩ rfl rfl (Nat.le_of_ble_eq_true rfl) ⟨Nat.zero_le _, Nat.zero_le _⟩ dX10_sample_86 rfl ?_
    exact am_sub (lv' := [(0, .ref (z + 174)), (1, .int a1), (3, .int a3), (4, .int (((12 : Int32) * a1) + ((4 : Int32) * a2)))]) [1, 2, 4, 0] rfl (cj_X10_sample_J89 F hr a1 a3 (((12 : Int32) * a1) + ((4 : Int32) * a2)) ((((12 : Int32) * a1) + ((4 : Int32) * a2)) + (1 : Int32)) v16 M15 r0 M1 h)
  · have h := (if_neg c30).symm.trans h
    refine am_iconst F (v := (-1 : Int32)) dX10_sample_79 (by decide) ?_
    refine am_goto F (tgt := 89) dX10_sample_80 (by decide) ?_
    exact am_sub (lv' := [(0, .ref (z + 174)), (1, .int a1), (3, .int a3), (4, .int (((12 : Int32) * a1) + ((4 : Int32) * a2)))]) [1, 2, 4, 0] rfl (cj_X10_sample_J89 F hr a1 a3 (((12 : Int32) * a1) + ((4 : Int32) * a2)) ((((12 : Int32) * a1) + ((4 : Int32) * a2)) + (1 : Int32)) (-1 : Int32) M12 r0 M1 h)
def g_X10_sample (a1 : Int32) (a2 : Int32) (a3 : Int32) (M : am_M) : Option (Int32 × am_M) := (am_b (g_X10_isPlace a1 a2 (am_s M 174 0 (0 : Int32))) (fun v3 M2 => (if v3 = (0 : Int32) then (am_b (g_X10_fails (1 : Int32) M2) (fun v6 M5 => (some (v6, M5)))) else (am_b (g_X10_isRobot a3 M2) (fun v9 M8 => (if v9 = (0 : Int32) then (am_b (g_X10_fails (1 : Int32) M8) (fun v41 M40 => (some (v41, M40)))) else (if a1 = (0 : Int32) then (am_b (g_X10_isIdle a3 M8) (fun v33 M32 => (if v33 = (0 : Int32) then (am_b (g_X10_fails (2 : Int32) M32) (fun v36 M35 => (some (v36, M35)))) else (g_X10_sample_J45 a1 a2 a3 M32)))) else (g_X10_sample_J45 a1 a2 a3 M8))))))))
set_option maxHeartbeats 4000000 in
set_option maxRecDepth 100000 in
theorem c_X10_sample (l : Launch) (D : va_G) (E : Nat → ClassId) (z : Nat) (a1 : Int32) (a2 : Int32) (a3 : Int32) (M : am_M) (r0 : Int32) (M1 : am_M) (h : g_X10_sample a1 a2 a3 M = some (r0, M1)) : am_Mi l yX10_sample cX10_sample 7 (some .int) rm_X10_sample D E z [.ref (z + 174), .int a1, .int a2, .int a3] M r0 M1 := by
  unfold g_X10_sample at h
  refine am_of (own := RX10) (by decide +kernel) rfl (by exact Nat.le_of_ble_eq_true rfl) ?_
  intro p e s m args below meth c F hr
  show am_W p l e rm_X10_sample s m args below meth c _ 7 D E z 0 0 M 0 [(0, .ref (z + 174)), (1, .int a1), (2, .int a2), (3, .int a3)] []
  refine am_aload_n F 0 dX10_sample_0 rfl rfl ?_
  refine am_iconst F (v := (0 : Int32)) dX10_sample_1 (by decide) ?_
  refine pf_X10_51 F lyk_174 dX10_sample_2 ?_
  refine am_iload_n F 1 dX10_sample_5 rfl rfl ?_
  refine am_iload_n F 2 dX10_sample_6 rfl rfl ?_
  obtain ⟨v3, M2, h1, h⟩ := am_bE h
  refine am_callSi F [.int a1, .int a2] cw_X10_264 rfl (c_X10_isPlace l D E z a1 a2 (am_s M 174 0 (0 : Int32)) v3 M2 h1) yn_X10_isPlace rfl ⟨Nat.le_of_ble_eq_true rfl, Nat.le_of_ble_eq_true rfl⟩ rfl rfl (Nat.le_of_ble_eq_true rfl) ⟨Nat.zero_le _, Nat.zero_le _⟩ dX10_sample_7 rfl ?_
  refine am_if_eq F (tgt := 21) dX10_sample_10 (by decide) (fun c43 => ?_) (fun c43 => ?_)
  · have h := (if_pos c43).symm.trans h
    refine am_aload_n F 0 dX10_sample_21 rfl rfl ?_
    refine am_iconst F (v := (1 : Int32)) dX10_sample_22 (by decide) ?_
    obtain ⟨v6, M5, h4, h⟩ := am_bE h
    refine am_callVi F [.int (1 : Int32)] lyk_174 (by decide) rfl cw_X10_164 (c_X10_fails l D E z (1 : Int32) M2 v6 M5 h4) yn_X10_fails rfl ⟨Nat.le_of_ble_eq_true rfl, Nat.le_of_ble_eq_true rfl⟩ rfl rfl (Nat.le_of_ble_eq_true rfl) ⟨Nat.zero_le _, Nat.zero_le _⟩ dX10_sample_23 rfl ?_
    exact am_iret F hr h dX10_sample_26
  · have h := (if_neg c43).symm.trans h
    refine am_aload_n F 0 dX10_sample_13 rfl rfl ?_
    refine am_iload_n F 3 dX10_sample_14 rfl rfl ?_
    obtain ⟨v9, M8, h7, h⟩ := am_bE h
    refine am_callVi F [.int a3] lyk_174 (by decide) rfl cw_X10_173 (c_X10_isRobot l D E z a3 M2 v9 M8 h7) yn_X10_isRobot rfl ⟨Nat.le_of_ble_eq_true rfl, Nat.le_of_ble_eq_true rfl⟩ rfl rfl (Nat.le_of_ble_eq_true rfl) ⟨Nat.zero_le _, Nat.zero_le _⟩ dX10_sample_15 rfl ?_
    refine am_if_ne F (tgt := 27) dX10_sample_18 (by decide) (fun c42 => ?_) (fun c42 => ?_)
    · have h := (if_neg c42).symm.trans h
      refine am_iload_n F 1 dX10_sample_27 rfl rfl ?_
      refine am_if_ne F (tgt := 45) dX10_sample_28 (by decide) (fun c38 => ?_) (fun c38 => ?_)
      · have h := (if_neg c38).symm.trans h
        exact am_sub (lv' := [(0, .ref (z + 174)), (1, .int a1), (2, .int a2), (3, .int a3)]) [0, 1, 2, 3] rfl (cj_X10_sample_J45 F hr a1 a2 a3 M8 r0 M1 h)
      · have h := (if_pos c38).symm.trans h
        refine am_aload_n F 0 dX10_sample_31 rfl rfl ?_
        refine am_iload_n F 3 dX10_sample_32 rfl rfl ?_
        obtain ⟨v33, M32, h31, h⟩ := am_bE h
        refine am_callVi F [.int a3] lyk_174 (by decide) rfl cw_X10_200 (c_X10_isIdle l D E z a3 M8 v33 M32 h31) yn_X10_isIdle rfl ⟨Nat.le_of_ble_eq_true rfl, Nat.le_of_ble_eq_true rfl⟩ rfl rfl (Nat.le_of_ble_eq_true rfl) ⟨Nat.zero_le _, Nat.zero_le _⟩ dX10_sample_33 rfl ?_
        refine am_if_ne F (tgt := 45) dX10_sample_36 (by decide) (fun c37 => ?_) (fun c37 => ?_)
        · have h := (if_neg c37).symm.trans h
          exact am_sub (lv' := [(0, .ref (z + 174)), (1, .int a1), (2, .int a2), (3, .int a3)]) [0, 1, 2, 3] rfl (cj_X10_sample_J45 F hr a1 a2 a3 M32 r0 M1 h)
        · have h := (if_pos c37).symm.trans h
          refine am_aload_n F 0 dX10_sample_39 rfl rfl ?_
          refine am_iconst F (v := (2 : Int32)) dX10_sample_40 (by decide) ?_
          obtain ⟨v36, M35, h34, h⟩ := am_bE h
          refine am_callVi F [.int (2 : Int32)] lyk_174 (by decide) rfl cw_X10_164 (c_X10_fails l D E z (2 : Int32) M32 v36 M35 h34) yn_X10_fails rfl ⟨Nat.le_of_ble_eq_true rfl, Nat.le_of_ble_eq_true rfl⟩ rfl rfl (Nat.le_of_ble_eq_true rfl) ⟨Nat.zero_le _, Nat.zero_le _⟩ dX10_sample_41 rfl ?_
          exact am_iret F hr h dX10_sample_44
    · have h := (if_pos c42).symm.trans h
      refine am_aload_n F 0 dX10_sample_21 rfl rfl ?_
      refine am_iconst F (v := (1 : Int32)) dX10_sample_22 (by decide) ?_
      obtain ⟨v41, M40, h39, h⟩ := am_bE h
      refine am_callVi F [.int (1 : Int32)] lyk_174 (by decide) rfl cw_X10_164 (c_X10_fails l D E z (1 : Int32) M8 v41 M40 h39) yn_X10_fails rfl ⟨Nat.le_of_ble_eq_true rfl, Nat.le_of_ble_eq_true rfl⟩ rfl rfl (Nat.le_of_ble_eq_true rfl) ⟨Nat.zero_le _, Nat.zero_le _⟩ dX10_sample_23 rfl ?_
      exact am_iret F hr h dX10_sample_26
/-! AisleSchedulerModel.sampled(III)I -/
abbrev rm_X10_sampled : Room := { frames := 3, cells := 0, slots := 0, locals := 67 }
theorem yn_X10_sampled : am_yn yX10_sampled 3 := ⟨⟨by decide +kernel, by decide +kernel⟩, by decide +kernel⟩
def g_X10_sampled (a1 : Int32) (a2 : Int32) (a3 : Int32) (M : am_M) : Option (Int32 × am_M) := (am_b (g_X10_isPlace a1 a2 (am_s M 174 0 (0 : Int32))) (fun v3 M2 => (if v3 = (0 : Int32) then (am_b (g_X10_fails (1 : Int32) M2) (fun v19 M18 => (some (v19, M18)))) else (am_b (g_X10_in a3 (0 : Int32) (3 : Int32) M2) (fun v6 M5 => (if v6 = (0 : Int32) then (am_b (g_X10_fails (2 : Int32) M5) (fun v15 M14 => (some (v15, M14)))) else (am_ci (((12 : Int32) * a1) + ((4 : Int32) * a2)) 24 (if (am_g M5 178 (((12 : Int32) * a1) + ((4 : Int32) * a2)).toNatClampNeg) = (-1 : Int32) then (am_b (g_X10_fails (3 : Int32) M5) (fun v11 M10 => (some (v11, M10)))) else (am_ci ((((12 : Int32) * a1) + ((4 : Int32) * a2)) + a3) 24 (some ((am_g M5 178 ((((12 : Int32) * a1) + ((4 : Int32) * a2)) + a3).toNatClampNeg), M5)))))))))))
set_option maxHeartbeats 4000000 in
set_option maxRecDepth 100000 in
theorem c_X10_sampled (l : Launch) (D : va_G) (E : Nat → ClassId) (z : Nat) (a1 : Int32) (a2 : Int32) (a3 : Int32) (M : am_M) (r0 : Int32) (M1 : am_M) (h : g_X10_sampled a1 a2 a3 M = some (r0, M1)) : am_Mi l yX10_sampled cX10_sampled 5 (some .int) rm_X10_sampled D E z [.ref (z + 174), .int a1, .int a2, .int a3] M r0 M1 := by
  unfold g_X10_sampled at h
  refine am_of (own := RX10) (by decide +kernel) rfl (by exact Nat.le_of_ble_eq_true rfl) ?_
  intro p e s m args below meth c F hr
  show am_W p l e rm_X10_sampled s m args below meth c _ 5 D E z 0 0 M 0 [(0, .ref (z + 174)), (1, .int a1), (2, .int a2), (3, .int a3)] []
  refine am_aload_n F 0 dX10_sampled_0 rfl rfl ?_
  refine am_iconst F (v := (0 : Int32)) dX10_sampled_1 (by decide) ?_
  refine pf_X10_51 F lyk_174 dX10_sampled_2 ?_
  refine am_iload_n F 1 dX10_sampled_5 rfl rfl ?_
  refine am_iload_n F 2 dX10_sampled_6 rfl rfl ?_
  obtain ⟨v3, M2, h1, h⟩ := am_bE h
  refine am_callSi F [.int a1, .int a2] cw_X10_264 rfl (c_X10_isPlace l D E z a1 a2 (am_s M 174 0 (0 : Int32)) v3 M2 h1) yn_X10_isPlace rfl ⟨Nat.le_of_ble_eq_true rfl, Nat.le_of_ble_eq_true rfl⟩ rfl rfl (Nat.le_of_ble_eq_true rfl) ⟨Nat.zero_le _, Nat.zero_le _⟩ dX10_sampled_7 rfl ?_
  refine am_if_ne F (tgt := 19) dX10_sampled_10 (by decide) (fun c20 => ?_) (fun c20 => ?_)
  · have h := (if_neg c20).symm.trans h
    refine am_iload_n F 3 dX10_sampled_19 rfl rfl ?_
    refine am_iconst F (v := (0 : Int32)) dX10_sampled_20 (by decide) ?_
    refine am_iconst F (v := (3 : Int32)) dX10_sampled_21 (by decide) ?_
    obtain ⟨v6, M5, h4, h⟩ := am_bE h
    refine am_callSi F [.int a3, .int (0 : Int32), .int (3 : Int32)] cw_X10_54 rfl (c_X10_in l D E z a3 (0 : Int32) (3 : Int32) M2 v6 M5 h4) yn_X10_in rfl ⟨Nat.le_of_ble_eq_true rfl, Nat.le_of_ble_eq_true rfl⟩ rfl rfl (Nat.le_of_ble_eq_true rfl) ⟨Nat.zero_le _, Nat.zero_le _⟩ dX10_sampled_22 rfl ?_
    refine am_if_ne F (tgt := 34) dX10_sampled_25 (by decide) (fun c16 => ?_) (fun c16 => ?_)
    · have h := (if_neg c16).symm.trans h
      refine am_bipush F (v := (12 : Int32)) dX10_sampled_34 (by decide) ?_
      refine am_iload_n F 1 dX10_sampled_36 rfl rfl ?_
      refine am_imul F dX10_sampled_37 ?_
      refine am_iconst F (v := (4 : Int32)) dX10_sampled_38 (by decide) ?_
      refine am_iload_n F 2 dX10_sampled_39 rfl rfl ?_
      refine am_imul F dX10_sampled_40 ?_
      refine am_iadd F dX10_sampled_41 ?_
      refine am_istore F [(4, .int (((12 : Int32) * a1) + ((4 : Int32) * a2))), (0, .ref (z + 174)), (1, .int a1), (2, .int a2), (3, .int a3)] dX10_sampled_42 (by decide) rfl ?_
      refine am_aload_n F 1 dX10_sampled_44 rfl rfl ?_
      refine gf_X10_19 F lyk_174 dX10_sampled_45 ?_
      refine am_iload F 0 dX10_sampled_48 rfl ?_
      obtain ⟨q7, h⟩ := am_ciE h
      refine am_iald F lyk_178 q7 dX10_sampled_50 ?_
      refine am_iconst F (v := (-1 : Int32)) dX10_sampled_51 (by decide) ?_
      refine am_icmp_ne F (tgt := 63) dX10_sampled_52 (by decide) (fun c12 => ?_) (fun c12 => ?_)
      · have h := (if_neg c12).symm.trans h
        refine am_aload_n F 1 dX10_sampled_63 rfl rfl ?_
        refine gf_X10_19 F lyk_174 dX10_sampled_64 ?_
        refine am_iload F 0 dX10_sampled_67 rfl ?_
        refine am_iload_n F 4 dX10_sampled_69 rfl rfl ?_
        refine am_iadd F dX10_sampled_70 ?_
        obtain ⟨q8, h⟩ := am_ciE h
        refine am_iald F lyk_178 q8 dX10_sampled_71 ?_
        exact am_iret F hr h dX10_sampled_72
      · have h := (if_pos c12).symm.trans h
        refine am_aload_n F 1 dX10_sampled_55 rfl rfl ?_
        refine am_iconst F (v := (3 : Int32)) dX10_sampled_56 (by decide) ?_
        obtain ⟨v11, M10, h9, h⟩ := am_bE h
        refine am_callVi F [.int (3 : Int32)] lyk_174 (by decide) rfl cw_X10_164 (c_X10_fails l D E z (3 : Int32) M5 v11 M10 h9) yn_X10_fails rfl ⟨Nat.le_of_ble_eq_true rfl, Nat.le_of_ble_eq_true rfl⟩ rfl rfl (Nat.le_of_ble_eq_true rfl) ⟨Nat.zero_le _, Nat.zero_le _⟩ dX10_sampled_57 rfl ?_
        refine am_goto F (tgt := 72) dX10_sampled_60 (by decide) ?_
        exact am_iret F hr h dX10_sampled_72
    · have h := (if_pos c16).symm.trans h
      refine am_aload_n F 0 dX10_sampled_28 rfl rfl ?_
      refine am_iconst F (v := (2 : Int32)) dX10_sampled_29 (by decide) ?_
      obtain ⟨v15, M14, h13, h⟩ := am_bE h
      refine am_callVi F [.int (2 : Int32)] lyk_174 (by decide) rfl cw_X10_164 (c_X10_fails l D E z (2 : Int32) M5 v15 M14 h13) yn_X10_fails rfl ⟨Nat.le_of_ble_eq_true rfl, Nat.le_of_ble_eq_true rfl⟩ rfl rfl (Nat.le_of_ble_eq_true rfl) ⟨Nat.zero_le _, Nat.zero_le _⟩ dX10_sampled_30 rfl ?_
      exact am_iret F hr h dX10_sampled_33
  · have h := (if_pos c20).symm.trans h
    refine am_aload_n F 0 dX10_sampled_13 rfl rfl ?_
    refine am_iconst F (v := (1 : Int32)) dX10_sampled_14 (by decide) ?_
    obtain ⟨v19, M18, h17, h⟩ := am_bE h
    refine am_callVi F [.int (1 : Int32)] lyk_174 (by decide) rfl cw_X10_164 (c_X10_fails l D E z (1 : Int32) M2 v19 M18 h17) yn_X10_fails rfl ⟨Nat.le_of_ble_eq_true rfl, Nat.le_of_ble_eq_true rfl⟩ rfl rfl (Nat.le_of_ble_eq_true rfl) ⟨Nat.zero_le _, Nat.zero_le _⟩ dX10_sampled_15 rfl ?_
    exact am_iret F hr h dX10_sampled_18
/-! AisleSchedulerModel.append(C)I -/
abbrev rm_X10_append : Room := { frames := 2, cells := 0, slots := 0, locals := 46 }
theorem yn_X10_append : am_yn yX10_append 1 := ⟨⟨by decide +kernel, by decide +kernel⟩, by decide +kernel⟩
def g_X10_append (a1 : Int32) (M : am_M) : Option (Int32 × am_M) := (am_b (g_X10_in a1 (32 : Int32) (126 : Int32) (am_s M 174 0 (0 : Int32))) (fun v3 M2 => (if v3 = (0 : Int32) then (am_b (g_X10_fails (1 : Int32) M2) (fun v11 M10 => (some (v11, M10)))) else (if (am_g M2 174 7) = (40 : Int32) then (am_b (g_X10_fails (2 : Int32) M2) (fun v7 M6 => (some (v7, M6)))) else (am_ci (am_g M2 174 7) 40 (some ((am_g (am_s (am_s M2 179 (am_g M2 174 7).toNatClampNeg a1) 174 7 ((am_g (am_s M2 179 (am_g M2 174 7).toNatClampNeg a1) 174 7) + (1 : Int32))) 174 7), (am_s (am_s M2 179 (am_g M2 174 7).toNatClampNeg a1) 174 7 ((am_g (am_s M2 179 (am_g M2 174 7).toNatClampNeg a1) 174 7) + (1 : Int32))))))))))
set_option maxHeartbeats 4000000 in
set_option maxRecDepth 100000 in
theorem c_X10_append (l : Launch) (D : va_G) (E : Nat → ClassId) (z : Nat) (a1 : Int32) (M : am_M) (r0 : Int32) (M1 : am_M) (h : g_X10_append a1 M = some (r0, M1)) : am_Mi l yX10_append cX10_append 2 (some .int) rm_X10_append D E z [.ref (z + 174), .int a1] M r0 M1 := by
  unfold g_X10_append at h
  refine am_of (own := RX10) (by decide +kernel) rfl (by exact Nat.le_of_ble_eq_true rfl) ?_
  intro p e s m args below meth c F hr
  show am_W p l e rm_X10_append s m args below meth c _ 2 D E z 0 0 M 0 [(0, .ref (z + 174)), (1, .int a1)] []
  refine am_aload_n F 0 dX10_append_0 rfl rfl ?_
  refine am_iconst F (v := (0 : Int32)) dX10_append_1 (by decide) ?_
  refine pf_X10_51 F lyk_174 dX10_append_2 ?_
  refine am_iload_n F 1 dX10_append_5 rfl rfl ?_
  refine am_bipush F (v := (32 : Int32)) dX10_append_6 (by decide) ?_
  refine am_bipush F (v := (126 : Int32)) dX10_append_8 (by decide) ?_
  obtain ⟨v3, M2, h1, h⟩ := am_bE h
  refine am_callSi F [.int a1, .int (32 : Int32), .int (126 : Int32)] cw_X10_54 rfl (c_X10_in l D E z a1 (32 : Int32) (126 : Int32) (am_s M 174 0 (0 : Int32)) v3 M2 h1) yn_X10_in rfl ⟨Nat.le_of_ble_eq_true rfl, Nat.le_of_ble_eq_true rfl⟩ rfl rfl (Nat.le_of_ble_eq_true rfl) ⟨Nat.zero_le _, Nat.zero_le _⟩ dX10_append_10 rfl ?_
  refine am_if_ne F (tgt := 22) dX10_append_13 (by decide) (fun c12 => ?_) (fun c12 => ?_)
  · have h := (if_neg c12).symm.trans h
    refine am_aload_n F 0 dX10_append_22 rfl rfl ?_
    refine gf_X10_267 F lyk_174 dX10_append_23 ?_
    refine am_bipush F (v := (40 : Int32)) dX10_append_26 (by decide) ?_
    refine am_icmp_ne F (tgt := 37) dX10_append_28 (by decide) (fun c8 => ?_) (fun c8 => ?_)
    · have h := (if_neg c8).symm.trans h
      refine am_aload_n F 0 dX10_append_37 rfl rfl ?_
      refine gf_X10_22 F lyk_174 dX10_append_38 ?_
      refine am_aload_n F 0 dX10_append_41 rfl rfl ?_
      refine gf_X10_267 F lyk_174 dX10_append_42 ?_
      refine am_iload_n F 1 dX10_append_45 rfl rfl ?_
      obtain ⟨q4, h⟩ := am_ciE h
      refine am_iast F lyk_179 q4 dX10_append_46 ?_
      refine am_aload_n F 0 dX10_append_47 rfl rfl ?_
      refine am_dup F dX10_append_48 rfl ?_
      refine gf_X10_267 F lyk_174 dX10_append_49 ?_
      refine am_iconst F (v := (1 : Int32)) dX10_append_52 (by decide) ?_
      refine am_iadd F dX10_append_53 ?_
      refine pf_X10_267 F lyk_174 dX10_append_54 ?_
      refine am_aload_n F 0 dX10_append_57 rfl rfl ?_
      refine gf_X10_267 F lyk_174 dX10_append_58 ?_
      exact am_iret F hr h dX10_append_61
    · have h := (if_pos c8).symm.trans h
      refine am_aload_n F 0 dX10_append_31 rfl rfl ?_
      refine am_iconst F (v := (2 : Int32)) dX10_append_32 (by decide) ?_
      obtain ⟨v7, M6, h5, h⟩ := am_bE h
      refine am_callVi F [.int (2 : Int32)] lyk_174 (by decide) rfl cw_X10_164 (c_X10_fails l D E z (2 : Int32) M2 v7 M6 h5) yn_X10_fails rfl ⟨Nat.le_of_ble_eq_true rfl, Nat.le_of_ble_eq_true rfl⟩ rfl rfl (Nat.le_of_ble_eq_true rfl) ⟨Nat.zero_le _, Nat.zero_le _⟩ dX10_append_33 rfl ?_
      exact am_iret F hr h dX10_append_36
  · have h := (if_pos c12).symm.trans h
    refine am_aload_n F 0 dX10_append_16 rfl rfl ?_
    refine am_iconst F (v := (1 : Int32)) dX10_append_17 (by decide) ?_
    obtain ⟨v11, M10, h9, h⟩ := am_bE h
    refine am_callVi F [.int (1 : Int32)] lyk_174 (by decide) rfl cw_X10_164 (c_X10_fails l D E z (1 : Int32) M2 v11 M10 h9) yn_X10_fails rfl ⟨Nat.le_of_ble_eq_true rfl, Nat.le_of_ble_eq_true rfl⟩ rfl rfl (Nat.le_of_ble_eq_true rfl) ⟨Nat.zero_le _, Nat.zero_le _⟩ dX10_append_18 rfl ?_
    exact am_iret F hr h dX10_append_21
/-! AisleSchedulerModel.here()I -/
abbrev rm_X10_here : Room := { frames := 1, cells := 0, slots := 0, locals := 24 }
theorem yn_X10_here : am_yn yX10_here 0 := ⟨⟨by decide +kernel, by decide +kernel⟩, by decide +kernel⟩
def g_X10_here  (M : am_M) : Option (Int32 × am_M) := (if (am_g M 174 7) ≤ (am_g M 174 19) then (some ((-1 : Int32), M)) else (am_ci (am_g M 174 19) 40 (some ((am_g M 179 (am_g M 174 19).toNatClampNeg), M))))
set_option maxHeartbeats 4000000 in
set_option maxRecDepth 100000 in
theorem c_X10_here (l : Launch) (D : va_G) (E : Nat → ClassId) (z : Nat)  (M : am_M) (r0 : Int32) (M1 : am_M) (h : g_X10_here  M = some (r0, M1)) : am_Mi l yX10_here cX10_here 1 (some .int) rm_X10_here D E z [.ref (z + 174)] M r0 M1 := by
  unfold g_X10_here at h
  refine am_of (own := RX10) (by decide +kernel) rfl (by exact Nat.le_of_ble_eq_true rfl) ?_
  intro p e s m args below meth c F hr
  show am_W p l e rm_X10_here s m args below meth c _ 1 D E z 0 0 M 0 [(0, .ref (z + 174))] []
  refine am_aload_n F 0 dX10_here_0 rfl rfl ?_
  refine gf_X10_270 F lyk_174 dX10_here_1 ?_
  refine am_aload_n F 0 dX10_here_4 rfl rfl ?_
  refine gf_X10_267 F lyk_174 dX10_here_5 ?_
  refine am_icmp_ge F (tgt := 23) dX10_here_8 (by decide) (fun c2 => ?_) (fun c2 => ?_)
  · have h := (if_pos c2).symm.trans h
    refine am_iconst F (v := (-1 : Int32)) dX10_here_23 (by decide) ?_
    exact am_iret F hr h dX10_here_24
  · have h := (if_neg c2).symm.trans h
    refine am_aload_n F 0 dX10_here_11 rfl rfl ?_
    refine gf_X10_22 F lyk_174 dX10_here_12 ?_
    refine am_aload_n F 0 dX10_here_15 rfl rfl ?_
    refine gf_X10_270 F lyk_174 dX10_here_16 ?_
    obtain ⟨q1, h⟩ := am_ciE h
    refine am_iald F lyk_179 q1 dX10_here_19 ?_
    refine am_goto F (tgt := 24) dX10_here_20 (by decide) ?_
    exact am_iret F hr h dX10_here_24
/-! AisleSchedulerModel.must(I)V -/
abbrev rm_X10_must : Room := { frames := 2, cells := 0, slots := 0, locals := 44 }
theorem yn_X10_must : am_yn yX10_must 1 := ⟨⟨by decide +kernel, by decide +kernel⟩, by decide +kernel⟩
def g_X10_must_J21 (as1 : Int32) (M : am_M) : Option (Unit × am_M) := (am_c (as1 = 0 ∨ as1 = 1) (if (am_g (am_s M 174 20 as1) 174 20) = (0 : Int32) then (some ((), (am_s (am_s M 174 20 as1) 174 19 ((am_g (am_s M 174 20 as1) 174 19) + (0 : Int32))))) else (some ((), (am_s (am_s M 174 20 as1) 174 19 ((am_g (am_s M 174 20 as1) 174 19) + (1 : Int32)))))))
set_option maxHeartbeats 4000000 in
set_option maxRecDepth 100000 in
theorem cj_X10_must_J21 {l : Launch} {p : Program} {e : Env} {s : State} {m : MethodId} {args : Array Value} {below : List Frame} {meth : Method} {c : Code} {D : va_G} {E : Nat → ClassId} {z : Nat} (F : am_F p s m args meth c cX10_must 2 RX10 D E z) (hr : meth.sig.returnType = none) (as1 : Int32) (M : am_M)  (M1 : am_M) (h : g_X10_must_J21 as1 M = some ((), M1)) : am_W p l e rm_X10_must s m args below meth c (MQ below (va_Qv (fun (u : am_M) => u = M1) (am_BQ z E D) (fun q => z ≤ q)) args s 0 0 (fun q => z ≤ q)) 2 D E z 0 0 M 21 [(0, .ref (z + 174))] [.int as1, .ref (z + 174)] := by
  unfold g_X10_must_J21 at h
  obtain ⟨q1, h⟩ := am_cE h
  refine pf_X10_273 F lyk_174 q1 dX10_must_21 ?_
  refine am_aload_n F 0 dX10_must_24 rfl rfl ?_
  refine am_dup F dX10_must_25 rfl ?_
  refine gf_X10_270 F lyk_174 dX10_must_26 ?_
  refine am_aload_n F 0 dX10_must_29 rfl rfl ?_
  refine gf_X10_273 F lyk_174 dX10_must_30 ?_
  refine am_if_eq F (tgt := 40) dX10_must_33 (by decide) (fun c2 => ?_) (fun c2 => ?_)
  · have h := (if_pos c2).symm.trans h
    refine am_iconst F (v := (0 : Int32)) dX10_must_40 (by decide) ?_
    refine am_iadd F dX10_must_41 ?_
    refine pf_X10_270 F lyk_174 dX10_must_42 ?_
    exact am_vret F hr h dX10_must_45
  · have h := (if_neg c2).symm.trans h
    refine am_iconst F (v := (1 : Int32)) dX10_must_36 (by decide) ?_
    refine am_goto F (tgt := 41) dX10_must_37 (by decide) ?_
    refine am_iadd F dX10_must_41 ?_
    refine pf_X10_270 F lyk_174 dX10_must_42 ?_
    exact am_vret F hr h dX10_must_45
def g_X10_must (a1 : Int32) (M : am_M) : Option (Unit × am_M) := (if (am_g M 174 20) = (0 : Int32) then (g_X10_must_J21 (0 : Int32) M) else (am_b (g_X10_here  M) (fun v5 M4 => (if v5 = a1 then (g_X10_must_J21 (1 : Int32) M4) else (g_X10_must_J21 (0 : Int32) M4)))))
set_option maxHeartbeats 4000000 in
set_option maxRecDepth 100000 in
theorem c_X10_must (l : Launch) (D : va_G) (E : Nat → ClassId) (z : Nat) (a1 : Int32) (M : am_M)  (M1 : am_M) (h : g_X10_must a1 M = some ((), M1)) : am_Mv l yX10_must cX10_must 2 none rm_X10_must D E z [.ref (z + 174), .int a1] M M1 := by
  unfold g_X10_must at h
  refine am_of (own := RX10) (by decide +kernel) rfl (by exact Nat.le_of_ble_eq_true rfl) ?_
  intro p e s m args below meth c F hr
  show am_W p l e rm_X10_must s m args below meth c _ 2 D E z 0 0 M 0 [(0, .ref (z + 174)), (1, .int a1)] []
  refine am_aload_n F 0 dX10_must_0 rfl rfl ?_
  refine am_aload_n F 0 dX10_must_1 rfl rfl ?_
  refine gf_X10_273 F lyk_174 dX10_must_2 ?_
  refine am_if_eq F (tgt := 20) dX10_must_5 (by decide) (fun c7 => ?_) (fun c7 => ?_)
  · have h := (if_pos c7).symm.trans h
    refine am_iconst F (v := (0 : Int32)) dX10_must_20 (by decide) ?_
    exact am_sub (lv' := [(0, .ref (z + 174))]) [0] rfl (cj_X10_must_J21 F hr (0 : Int32) M  M1 h)
  · have h := (if_neg c7).symm.trans h
    refine am_aload_n F 0 dX10_must_8 rfl rfl ?_
    obtain ⟨v5, M4, h3, h⟩ := am_bE h
    refine am_callVi F [] lyk_174 (by decide) rfl cw_X10_277 (c_X10_here l D E z  M v5 M4 h3) yn_X10_here rfl ⟨Nat.le_of_ble_eq_true rfl, Nat.le_of_ble_eq_true rfl⟩ rfl rfl (Nat.le_of_ble_eq_true rfl) ⟨Nat.zero_le _, Nat.zero_le _⟩ dX10_must_9 rfl ?_
    refine am_iload_n F 1 dX10_must_12 rfl rfl ?_
    refine am_icmp_ne F (tgt := 20) dX10_must_13 (by decide) (fun c6 => ?_) (fun c6 => ?_)
    · have h := (if_neg c6).symm.trans h
      refine am_iconst F (v := (0 : Int32)) dX10_must_20 (by decide) ?_
      exact am_sub (lv' := [(0, .ref (z + 174))]) [0] rfl (cj_X10_must_J21 F hr (0 : Int32) M4  M1 h)
    · have h := (if_pos c6).symm.trans h
      refine am_iconst F (v := (1 : Int32)) dX10_must_16 (by decide) ?_
      refine am_goto F (tgt := 21) dX10_must_17 (by decide) ?_
      exact am_sub (lv' := [(0, .ref (z + 174))]) [0] rfl (cj_X10_must_J21 F hr (1 : Int32) M4  M1 h)
/-! AisleSchedulerModel.number()I -/
abbrev rm_X10_number : Room := { frames := 2, cells := 0, slots := 0, locals := 46 }
theorem yn_X10_number : am_yn yX10_number 0 := ⟨⟨by decide +kernel, by decide +kernel⟩, by decide +kernel⟩
def g_X10_number_J27 (as1 : Int32) (M : am_M) : Option (Int32 × am_M) := (am_c (as1 = 0 ∨ as1 = 1) (if (am_g (am_s M 174 20 as1) 174 20) = (0 : Int32) then (some ((0 : Int32), (am_s M 174 20 as1))) else (am_b (g_X10_here  (am_s M 174 20 as1)) (fun v4 M3 => (if (3 : Int32) < (v4 - (48 : Int32)) then (some ((v4 - (48 : Int32)), (am_s M3 174 19 ((am_g M3 174 19) + (1 : Int32))))) else (am_b (g_X10_here  (am_s M3 174 19 ((am_g M3 174 19) + (1 : Int32)))) (fun v7 M6 => (am_b (g_X10_in v7 (48 : Int32) (57 : Int32) M6) (fun v10 M9 => (if v10 = (0 : Int32) then (some ((v4 - (48 : Int32)), M9)) else (am_ci ((am_g (am_s M9 174 19 ((am_g M9 174 19) + (1 : Int32))) 174 19) - (1 : Int32)) 40 (some (((((10 : Int32) * (v4 - (48 : Int32))) + (am_g (am_s M9 174 19 ((am_g M9 174 19) + (1 : Int32))) 179 ((am_g (am_s M9 174 19 ((am_g M9 174 19) + (1 : Int32))) 174 19) - (1 : Int32)).toNatClampNeg)) - (48 : Int32)), (am_s M9 174 19 ((am_g M9 174 19) + (1 : Int32))))))))))))))))
set_option maxHeartbeats 4000000 in
set_option maxRecDepth 100000 in
theorem cj_X10_number_J27 {l : Launch} {p : Program} {e : Env} {s : State} {m : MethodId} {args : Array Value} {below : List Frame} {meth : Method} {c : Code} {D : va_G} {E : Nat → ClassId} {z : Nat} (F : am_F p s m args meth c cX10_number 2 RX10 D E z) (hr : meth.sig.returnType = (some .int)) (as1 : Int32) (M : am_M) (r0 : Int32) (M1 : am_M) (h : g_X10_number_J27 as1 M = some (r0, M1)) : am_W p l e rm_X10_number s m args below meth c (MQ below (va_Qi (fun (r9 : Int32) (u : am_M) => r9 = r0 ∧ u = M1) (am_BQ z E D) (fun q => z ≤ q)) args s 0 0 (fun q => z ≤ q)) 2 D E z 0 0 M 27 [(0, .ref (z + 174))] [.int as1, .ref (z + 174)] := by
  unfold g_X10_number_J27 at h
  obtain ⟨q1, h⟩ := am_cE h
  refine pf_X10_273 F lyk_174 q1 dX10_number_27 ?_
  refine am_aload_n F 0 dX10_number_30 rfl rfl ?_
  refine gf_X10_273 F lyk_174 dX10_number_31 ?_
  refine am_if_ne F (tgt := 39) dX10_number_34 (by decide) (fun c14 => ?_) (fun c14 => ?_)
  · have h := (if_neg c14).symm.trans h
    refine am_aload_n F 0 dX10_number_39 rfl rfl ?_
    obtain ⟨v4, M3, h2, h⟩ := am_bE h
    refine am_callVi F [] lyk_174 (by decide) rfl cw_X10_277 (c_X10_here l D E z  (am_s M 174 20 as1) v4 M3 h2) yn_X10_here rfl ⟨Nat.le_of_ble_eq_true rfl, Nat.le_of_ble_eq_true rfl⟩ rfl rfl (Nat.le_of_ble_eq_true rfl) ⟨Nat.zero_le _, Nat.zero_le _⟩ dX10_number_40 rfl ?_
    refine am_bipush F (v := (48 : Int32)) dX10_number_43 (by decide) ?_
    refine am_isub F dX10_number_45 ?_
    refine am_istore_n F [(1, .int (v4 - (48 : Int32))), (0, .ref (z + 174))] dX10_number_46 rfl (by decide) rfl ?_
    refine am_aload_n F 1 dX10_number_47 rfl rfl ?_
    refine am_dup F dX10_number_48 rfl ?_
    refine gf_X10_270 F lyk_174 dX10_number_49 ?_
    refine am_iconst F (v := (1 : Int32)) dX10_number_52 (by decide) ?_
    refine am_iadd F dX10_number_53 ?_
    refine pf_X10_270 F lyk_174 dX10_number_54 ?_
    refine am_iload_n F 0 dX10_number_57 rfl rfl ?_
    refine am_iconst F (v := (3 : Int32)) dX10_number_58 (by decide) ?_
    refine am_icmp_gt F (tgt := 76) dX10_number_59 (by decide) (fun c13 => ?_) (fun c13 => ?_)
    · have h := (if_pos c13).symm.trans h
      refine am_iload_n F 0 dX10_number_76 rfl rfl ?_
      exact am_iret F hr h dX10_number_77
    · have h := (if_neg c13).symm.trans h
      refine am_aload_n F 1 dX10_number_62 rfl rfl ?_
      obtain ⟨v7, M6, h5, h⟩ := am_bE h
      refine am_callVi F [] lyk_174 (by decide) rfl cw_X10_277 (c_X10_here l D E z  (am_s M3 174 19 ((am_g M3 174 19) + (1 : Int32))) v7 M6 h5) yn_X10_here rfl ⟨Nat.le_of_ble_eq_true rfl, Nat.le_of_ble_eq_true rfl⟩ rfl rfl (Nat.le_of_ble_eq_true rfl) ⟨Nat.zero_le _, Nat.zero_le _⟩ dX10_number_63 rfl ?_
      refine am_bipush F (v := (48 : Int32)) dX10_number_66 (by decide) ?_
      refine am_bipush F (v := (57 : Int32)) dX10_number_68 (by decide) ?_
      obtain ⟨v10, M9, h8, h⟩ := am_bE h
      refine am_callSi F [.int v7, .int (48 : Int32), .int (57 : Int32)] cw_X10_54 rfl (c_X10_in l D E z v7 (48 : Int32) (57 : Int32) M6 v10 M9 h8) yn_X10_in rfl ⟨Nat.le_of_ble_eq_true rfl, Nat.le_of_ble_eq_true rfl⟩ rfl rfl (Nat.le_of_ble_eq_true rfl) ⟨Nat.zero_le _, Nat.zero_le _⟩ dX10_number_70 rfl ?_
      refine am_if_ne F (tgt := 78) dX10_number_73 (by decide) (fun c12 => ?_) (fun c12 => ?_)
      · have h := (if_neg c12).symm.trans h
        refine am_aload_n F 1 dX10_number_78 rfl rfl ?_
        refine am_dup F dX10_number_79 rfl ?_
        refine gf_X10_270 F lyk_174 dX10_number_80 ?_
        refine am_iconst F (v := (1 : Int32)) dX10_number_83 (by decide) ?_
        refine am_iadd F dX10_number_84 ?_
        refine pf_X10_270 F lyk_174 dX10_number_85 ?_
        refine am_bipush F (v := (10 : Int32)) dX10_number_88 (by decide) ?_
        refine am_iload_n F 0 dX10_number_90 rfl rfl ?_
        refine am_imul F dX10_number_91 ?_
        refine am_aload_n F 1 dX10_number_92 rfl rfl ?_
        refine gf_X10_22 F lyk_174 dX10_number_93 ?_
        refine am_aload_n F 1 dX10_number_96 rfl rfl ?_
        refine gf_X10_270 F lyk_174 dX10_number_97 ?_
        refine am_iconst F (v := (1 : Int32)) dX10_number_100 (by decide) ?_
        refine am_isub F dX10_number_101 ?_
        obtain ⟨q11, h⟩ := am_ciE h
        refine am_iald F lyk_179 q11 dX10_number_102 ?_
        refine am_iadd F dX10_number_103 ?_
        refine am_bipush F (v := (48 : Int32)) dX10_number_104 (by decide) ?_
        refine am_isub F dX10_number_106 ?_
        exact am_iret F hr h dX10_number_107
      · have h := (if_pos c12).symm.trans h
        refine am_iload_n F 0 dX10_number_76 rfl rfl ?_
        exact am_iret F hr h dX10_number_77
  · have h := (if_pos c14).symm.trans h
    refine am_iconst F (v := (0 : Int32)) dX10_number_37 (by decide) ?_
    exact am_iret F hr h dX10_number_38
def g_X10_number  (M : am_M) : Option (Int32 × am_M) := (if (am_g M 174 20) = (0 : Int32) then (g_X10_number_J27 (0 : Int32) M) else (am_b (g_X10_here  M) (fun v17 M16 => (am_b (g_X10_in v17 (48 : Int32) (57 : Int32) M16) (fun v20 M19 => (if v20 = (0 : Int32) then (g_X10_number_J27 (0 : Int32) M19) else (g_X10_number_J27 (1 : Int32) M19)))))))
set_option maxHeartbeats 4000000 in
set_option maxRecDepth 100000 in
theorem c_X10_number (l : Launch) (D : va_G) (E : Nat → ClassId) (z : Nat)  (M : am_M) (r0 : Int32) (M1 : am_M) (h : g_X10_number  M = some (r0, M1)) : am_Mi l yX10_number cX10_number 2 (some .int) rm_X10_number D E z [.ref (z + 174)] M r0 M1 := by
  unfold g_X10_number at h
  refine am_of (own := RX10) (by decide +kernel) rfl (by exact Nat.le_of_ble_eq_true rfl) ?_
  intro p e s m args below meth c F hr
  show am_W p l e rm_X10_number s m args below meth c _ 2 D E z 0 0 M 0 [(0, .ref (z + 174))] []
  refine am_aload_n F 0 dX10_number_0 rfl rfl ?_
  refine am_aload_n F 0 dX10_number_1 rfl rfl ?_
  refine gf_X10_273 F lyk_174 dX10_number_2 ?_
  refine am_if_eq F (tgt := 26) dX10_number_5 (by decide) (fun c22 => ?_) (fun c22 => ?_)
  · have h := (if_pos c22).symm.trans h
    refine am_iconst F (v := (0 : Int32)) dX10_number_26 (by decide) ?_
    exact am_sub (lv' := [(0, .ref (z + 174))]) [0] rfl (cj_X10_number_J27 F hr (0 : Int32) M r0 M1 h)
  · have h := (if_neg c22).symm.trans h
    refine am_aload_n F 0 dX10_number_8 rfl rfl ?_
    obtain ⟨v17, M16, h15, h⟩ := am_bE h
    refine am_callVi F [] lyk_174 (by decide) rfl cw_X10_277 (c_X10_here l D E z  M v17 M16 h15) yn_X10_here rfl ⟨Nat.le_of_ble_eq_true rfl, Nat.le_of_ble_eq_true rfl⟩ rfl rfl (Nat.le_of_ble_eq_true rfl) ⟨Nat.zero_le _, Nat.zero_le _⟩ dX10_number_9 rfl ?_
    refine am_bipush F (v := (48 : Int32)) dX10_number_12 (by decide) ?_
    refine am_bipush F (v := (57 : Int32)) dX10_number_14 (by decide) ?_
    obtain ⟨v20, M19, h18, h⟩ := am_bE h
    refine am_callSi F [.int v17, .int (48 : Int32), .int (57 : Int32)] cw_X10_54 rfl (c_X10_in l D E z v17 (48 : Int32) (57 : Int32) M16 v20 M19 h18) yn_X10_in rfl ⟨Nat.le_of_ble_eq_true rfl, Nat.le_of_ble_eq_true rfl⟩ rfl rfl (Nat.le_of_ble_eq_true rfl) ⟨Nat.zero_le _, Nat.zero_le _⟩ dX10_number_16 rfl ?_
    refine am_if_eq F (tgt := 26) dX10_number_19 (by decide) (fun c21 => ?_) (fun c21 => ?_)
    · have h := (if_pos c21).symm.trans h
      refine am_iconst F (v := (0 : Int32)) dX10_number_26 (by decide) ?_
      exact am_sub (lv' := [(0, .ref (z + 174))]) [0] rfl (cj_X10_number_J27 F hr (0 : Int32) M19 r0 M1 h)
    · have h := (if_neg c21).symm.trans h
      refine am_iconst F (v := (1 : Int32)) dX10_number_22 (by decide) ?_
      refine am_goto F (tgt := 27) dX10_number_23 (by decide) ?_
      exact am_sub (lv' := [(0, .ref (z + 174))]) [0] rfl (cj_X10_number_J27 F hr (1 : Int32) M19 r0 M1 h)
/-! AisleSchedulerModel.entry(Z)Z -/
abbrev rm_X10_entry : Room := { frames := 7, cells := 0, slots := 0, locals := 164 }
theorem yn_X10_entry : am_yn yX10_entry 1 := ⟨⟨by decide +kernel, by decide +kernel⟩, by decide +kernel⟩
def g_X10_entry_J103 (a1 : Int32) (a2 : Int32) (a3 : Int32) (as0 : Int32) (M : am_M) : Option (Int32 × am_M) := (am_b (g_X10_must (59 : Int32) M) (fun _ M9 => (if a1 = (0 : Int32) then (some ((1 : Int32), M9)) else (if a2 = (108 : Int32) then (am_b (g_X10_addLift a3 as0 M9) (fun v35 M34 => (if v35 < (0 : Int32) then (some ((0 : Int32), M34)) else (if (am_g M34 174 0) = (0 : Int32) then (some ((1 : Int32), M34)) else (some ((0 : Int32), M34)))))) else (if a2 = (114 : Int32) then (am_b (g_X10_addRobot a3 (100 : Int32) M9) (fun v29 M28 => (if v29 < (0 : Int32) then (some ((0 : Int32), M28)) else (if (am_g M28 174 0) = (0 : Int32) then (some ((1 : Int32), M28)) else (some ((0 : Int32), M28)))))) else (if a2 = (119 : Int32) then (am_b (g_X10_setCell a3 (1 : Int32) M9) (fun v23 M22 => (if v23 < (0 : Int32) then (some ((0 : Int32), M22)) else (if (am_g M22 174 0) = (0 : Int32) then (some ((1 : Int32), M22)) else (some ((0 : Int32), M22)))))) else (if a2 = (99 : Int32) then (am_b (g_X10_setCell a3 (2 : Int32) M9) (fun v17 M16 => (if v17 < (0 : Int32) then (some ((0 : Int32), M16)) else (if (am_g M16 174 0) = (0 : Int32) then (some ((1 : Int32), M16)) else (some ((0 : Int32), M16)))))) else (am_b (g_X10_setCell a3 (0 : Int32) M9) (fun v12 M11 => (if v12 < (0 : Int32) then (some ((0 : Int32), M11)) else (if (am_g M11 174 0) = (0 : Int32) then (some ((1 : Int32), M11)) else (some ((0 : Int32), M11)))))))))))))
set_option maxHeartbeats 4000000 in
set_option maxRecDepth 100000 in
theorem cj_X10_entry_J103 {l : Launch} {p : Program} {e : Env} {s : State} {m : MethodId} {args : Array Value} {below : List Frame} {meth : Method} {c : Code} {D : va_G} {E : Nat → ClassId} {z : Nat} (F : am_F p s m args meth c cX10_entry 6 RX10 D E z) (hr : meth.sig.returnType = (some .boolean)) (a1 : Int32) (a2 : Int32) (a3 : Int32) (as0 : Int32) (M : am_M) (r0 : Int32) (M1 : am_M) (h : g_X10_entry_J103 a1 a2 a3 as0 M = some (r0, M1)) : am_W p l e rm_X10_entry s m args below meth c (MQ below (va_Qi (fun (r9 : Int32) (u : am_M) => r9 = r0 ∧ u = M1) (am_BQ z E D) (fun q => z ≤ q)) args s 0 0 (fun q => z ≤ q)) 6 D E z 0 0 M 103 [(0, .ref (z + 174)), (1, .int a1), (2, .int a2), (3, .int a3)] [.int as0] := by
  unfold g_X10_entry_J103 at h
  refine am_istore F [(4, .int as0), (0, .ref (z + 174)), (1, .int a1), (2, .int a2), (3, .int a3)] dX10_entry_103 (by decide) rfl ?_
  refine am_aload_n F 1 dX10_entry_105 rfl rfl ?_
  refine am_bipush F (v := (59 : Int32)) dX10_entry_106 (by decide) ?_
  obtain ⟨_, M9, h8, h⟩ := am_bE h
  refine am_callVv F [.int (59 : Int32)] lyk_174 (by decide) rfl cw_X10_283 (c_X10_must l D E z (59 : Int32) M M9 h8) yn_X10_must rfl ⟨Nat.le_of_ble_eq_true rfl, Nat.le_of_ble_eq_true rfl⟩ rfl rfl (Nat.le_of_ble_eq_true rfl) ⟨Nat.zero_le _, Nat.zero_le _⟩ dX10_entry_108 rfl ?_
  refine am_iload_n F 2 dX10_entry_111 rfl rfl ?_
  refine am_if_ne F (tgt := 117) dX10_entry_112 (by decide) (fun c39 => ?_) (fun c39 => ?_)
  · have h := (if_neg c39).symm.trans h
    refine am_iload_n F 3 dX10_entry_117 rfl rfl ?_
    refine am_bipush F (v := (108 : Int32)) dX10_entry_118 (by decide) ?_
    refine am_icmp_ne F (tgt := 133) dX10_entry_120 (by decide) (fun c38 => ?_) (fun c38 => ?_)
    · have h := (if_neg c38).symm.trans h
      refine am_iload_n F 3 dX10_entry_133 rfl rfl ?_
      refine am_bipush F (v := (114 : Int32)) dX10_entry_134 (by decide) ?_
      refine am_icmp_ne F (tgt := 149) dX10_entry_136 (by decide) (fun c32 => ?_) (fun c32 => ?_)
      · have h := (if_neg c32).symm.trans h
        refine am_aload_n F 1 dX10_entry_149 rfl rfl ?_
        refine am_iload_n F 4 dX10_entry_150 rfl rfl ?_
        refine am_iload_n F 3 dX10_entry_151 rfl rfl ?_
        refine am_bipush F (v := (119 : Int32)) dX10_entry_152 (by decide) ?_
        refine am_icmp_ne F (tgt := 161) dX10_entry_154 (by decide) (fun c26 => ?_) (fun c26 => ?_)
        · have h := (if_neg c26).symm.trans h
          refine am_iload_n F 3 dX10_entry_161 rfl rfl ?_
          refine am_bipush F (v := (99 : Int32)) dX10_entry_162 (by decide) ?_
          refine am_icmp_ne F (tgt := 171) dX10_entry_164 (by decide) (fun c20 => ?_) (fun c20 => ?_)
          · have h := (if_neg c20).symm.trans h
            refine am_iconst F (v := (0 : Int32)) dX10_entry_171 (by decide) ?_
            obtain ⟨v12, M11, h10, h⟩ := am_bE h
            refine am_callVi F [.int a3, .int (0 : Int32)] lyk_174 (by decide) rfl cw_X10_292 (c_X10_setCell l D E z a3 (0 : Int32) M9 v12 M11 h10) yn_X10_setCell rfl ⟨Nat.le_of_ble_eq_true rfl, Nat.le_of_ble_eq_true rfl⟩ rfl rfl (Nat.le_of_ble_eq_true rfl) ⟨Nat.zero_le _, Nat.zero_le _⟩ dX10_entry_172 rfl ?_
            refine am_istore F [(5, .int v12), (4, .int as0), (0, .ref (z + 174)), (1, .int a1), (2, .int a2), (3, .int a3)] dX10_entry_175 (by decide) rfl ?_
            refine am_iload F 0 dX10_entry_177 rfl ?_
            refine am_if_lt F (tgt := 193) dX10_entry_179 (by decide) (fun c14 => ?_) (fun c14 => ?_)
            · have h := (if_pos c14).symm.trans h
              refine am_iconst F (v := (0 : Int32)) dX10_entry_193 (by decide) ?_
              exact am_zret F hr (by decide) h dX10_entry_194
            · have h := (if_neg c14).symm.trans h
              refine am_aload_n F 2 dX10_entry_182 rfl rfl ?_
              refine gf_X10_51 F lyk_174 dX10_entry_183 ?_
              refine am_if_ne F (tgt := 193) dX10_entry_186 (by decide) (fun c13 => ?_) (fun c13 => ?_)
              · have h := (if_neg c13).symm.trans h
                refine am_iconst F (v := (0 : Int32)) dX10_entry_193 (by decide) ?_
                exact am_zret F hr (by decide) h dX10_entry_194
              · have h := (if_pos c13).symm.trans h
                refine am_iconst F (v := (1 : Int32)) dX10_entry_189 (by decide) ?_
                refine am_goto F (tgt := 194) dX10_entry_190 (by decide) ?_
                exact am_zret F hr (by decide) h dX10_entry_194
          · have h := (if_pos c20).symm.trans h
            refine am_iconst F (v := (2 : Int32)) dX10_entry_167 (by decide) ?_
            refine am_goto F (tgt := 172) dX10_entry_168 (by decide) ?_
            obtain ⟨v17, M16, h15, h⟩ := am_bE h
            refine am_callVi F [.int a3, .int (2 : Int32)] lyk_174 (by decide) rfl cw_X10_292 (c_X10_setCell l D E z a3 (2 : Int32) M9 v17 M16 h15) yn_X10_setCell rfl ⟨Nat.le_of_ble_eq_true rfl, Nat.le_of_ble_eq_true rfl⟩ rfl rfl (Nat.le_of_ble_eq_true rfl) ⟨Nat.zero_le _, Nat.zero_le _⟩ dX10_entry_172 rfl ?_
            refine am_istore F [(5, .int v17), (4, .int as0), (0, .ref (z + 174)), (1, .int a1), (2, .int a2), (3, .int a3)] dX10_entry_175 (by decide) rfl ?_
            refine am_iload F 0 dX10_entry_177 rfl ?_
            refine am_if_lt F (tgt := 193) dX10_entry_179 (by decide) (fun c19 => ?_) (fun c19 => ?_)
            · have h := (if_pos c19).symm.trans h
              refine am_iconst F (v := (0 : Int32)) dX10_entry_193 (by decide) ?_
              exact am_zret F hr (by decide) h dX10_entry_194
            · have h := (if_neg c19).symm.trans h
              refine am_aload_n F 2 dX10_entry_182 rfl rfl ?_
              refine gf_X10_51 F lyk_174 dX10_entry_183 ?_
              refine am_if_ne F (tgt := 193) dX10_entry_186 (by decide) (fun c18 => ?_) (fun c18 => ?_)
              · have h := (if_neg c18).symm.trans h
                refine am_iconst F (v := (0 : Int32)) dX10_entry_193 (by decide) ?_
                exact am_zret F hr (by decide) h dX10_entry_194
              · have h := (if_pos c18).symm.trans h
                refine am_iconst F (v := (1 : Int32)) dX10_entry_189 (by decide) ?_
                refine am_goto F (tgt := 194) dX10_entry_190 (by decide) ?_
                exact am_zret F hr (by decide) h dX10_entry_194
        · have h := (if_pos c26).symm.trans h
          refine am_iconst F (v := (1 : Int32)) dX10_entry_157 (by decide) ?_
          refine am_goto F (tgt := 172) dX10_entry_158 (by decide) ?_
          obtain ⟨v23, M22, h21, h⟩ := am_bE h
          refine am_callVi F [.int a3, .int (1 : Int32)] lyk_174 (by decide) rfl cw_X10_292 (c_X10_setCell l D E z a3 (1 : Int32) M9 v23 M22 h21) yn_X10_setCell rfl ⟨Nat.le_of_ble_eq_true rfl, Nat.le_of_ble_eq_true rfl⟩ rfl rfl (Nat.le_of_ble_eq_true rfl) ⟨Nat.zero_le _, Nat.zero_le _⟩ dX10_entry_172 rfl ?_
          refine am_istore F [(5, .int v23), (4, .int as0), (0, .ref (z + 174)), (1, .int a1), (2, .int a2), (3, .int a3)] dX10_entry_175 (by decide) rfl ?_
          refine am_iload F 0 dX10_entry_177 rfl ?_
          refine am_if_lt F (tgt := 193) dX10_entry_179 (by decide) (fun c25 => ?_) (fun c25 => ?_)
          · have h := (if_pos c25).symm.trans h
            refine am_iconst F (v := (0 : Int32)) dX10_entry_193 (by decide) ?_
            exact am_zret F hr (by decide) h dX10_entry_194
          · have h := (if_neg c25).symm.trans h
            refine am_aload_n F 2 dX10_entry_182 rfl rfl ?_
            refine gf_X10_51 F lyk_174 dX10_entry_183 ?_
            refine am_if_ne F (tgt := 193) dX10_entry_186 (by decide) (fun c24 => ?_) (fun c24 => ?_)
            · have h := (if_neg c24).symm.trans h
              refine am_iconst F (v := (0 : Int32)) dX10_entry_193 (by decide) ?_
              exact am_zret F hr (by decide) h dX10_entry_194
            · have h := (if_pos c24).symm.trans h
              refine am_iconst F (v := (1 : Int32)) dX10_entry_189 (by decide) ?_
              refine am_goto F (tgt := 194) dX10_entry_190 (by decide) ?_
              exact am_zret F hr (by decide) h dX10_entry_194
      · have h := (if_pos c32).symm.trans h
        refine am_aload_n F 1 dX10_entry_139 rfl rfl ?_
        refine am_iload_n F 4 dX10_entry_140 rfl rfl ?_
        refine am_bipush F (v := (100 : Int32)) dX10_entry_141 (by decide) ?_
        obtain ⟨v29, M28, h27, h⟩ := am_bE h
        refine am_callVi F [.int a3, .int (100 : Int32)] lyk_174 (by decide) rfl cw_X10_289 (c_X10_addRobot l D E z a3 (100 : Int32) M9 v29 M28 h27) yn_X10_addRobot rfl ⟨Nat.le_of_ble_eq_true rfl, Nat.le_of_ble_eq_true rfl⟩ rfl rfl (Nat.le_of_ble_eq_true rfl) ⟨Nat.zero_le _, Nat.zero_le _⟩ dX10_entry_143 rfl ?_
        refine am_goto F (tgt := 175) dX10_entry_146 (by decide) ?_
        refine am_istore F [(5, .int v29), (4, .int as0), (0, .ref (z + 174)), (1, .int a1), (2, .int a2), (3, .int a3)] dX10_entry_175 (by decide) rfl ?_
        refine am_iload F 0 dX10_entry_177 rfl ?_
        refine am_if_lt F (tgt := 193) dX10_entry_179 (by decide) (fun c31 => ?_) (fun c31 => ?_)
        · have h := (if_pos c31).symm.trans h
          refine am_iconst F (v := (0 : Int32)) dX10_entry_193 (by decide) ?_
          exact am_zret F hr (by decide) h dX10_entry_194
        · have h := (if_neg c31).symm.trans h
          refine am_aload_n F 2 dX10_entry_182 rfl rfl ?_
          refine gf_X10_51 F lyk_174 dX10_entry_183 ?_
          refine am_if_ne F (tgt := 193) dX10_entry_186 (by decide) (fun c30 => ?_) (fun c30 => ?_)
          · have h := (if_neg c30).symm.trans h
            refine am_iconst F (v := (0 : Int32)) dX10_entry_193 (by decide) ?_
            exact am_zret F hr (by decide) h dX10_entry_194
          · have h := (if_pos c30).symm.trans h
            refine am_iconst F (v := (1 : Int32)) dX10_entry_189 (by decide) ?_
            refine am_goto F (tgt := 194) dX10_entry_190 (by decide) ?_
            exact am_zret F hr (by decide) h dX10_entry_194
    · have h := (if_pos c38).symm.trans h
      refine am_aload_n F 1 dX10_entry_123 rfl rfl ?_
      refine am_iload_n F 4 dX10_entry_124 rfl rfl ?_
      refine am_iload F 0 dX10_entry_125 rfl ?_
      obtain ⟨v35, M34, h33, h⟩ := am_bE h
      refine am_callVi F [.int a3, .int as0] lyk_174 (by decide) rfl cw_X10_286 (c_X10_addLift l D E z a3 as0 M9 v35 M34 h33) yn_X10_addLift rfl ⟨Nat.le_of_ble_eq_true rfl, Nat.le_of_ble_eq_true rfl⟩ rfl rfl (Nat.le_of_ble_eq_true rfl) ⟨Nat.zero_le _, Nat.zero_le _⟩ dX10_entry_127 rfl ?_
      refine am_goto F (tgt := 175) dX10_entry_130 (by decide) ?_
      refine am_istore F [(5, .int v35), (4, .int as0), (0, .ref (z + 174)), (1, .int a1), (2, .int a2), (3, .int a3)] dX10_entry_175 (by decide) rfl ?_
      refine am_iload F 0 dX10_entry_177 rfl ?_
      refine am_if_lt F (tgt := 193) dX10_entry_179 (by decide) (fun c37 => ?_) (fun c37 => ?_)
      · have h := (if_pos c37).symm.trans h
        refine am_iconst F (v := (0 : Int32)) dX10_entry_193 (by decide) ?_
        exact am_zret F hr (by decide) h dX10_entry_194
      · have h := (if_neg c37).symm.trans h
        refine am_aload_n F 2 dX10_entry_182 rfl rfl ?_
        refine gf_X10_51 F lyk_174 dX10_entry_183 ?_
        refine am_if_ne F (tgt := 193) dX10_entry_186 (by decide) (fun c36 => ?_) (fun c36 => ?_)
        · have h := (if_neg c36).symm.trans h
          refine am_iconst F (v := (0 : Int32)) dX10_entry_193 (by decide) ?_
          exact am_zret F hr (by decide) h dX10_entry_194
        · have h := (if_pos c36).symm.trans h
          refine am_iconst F (v := (1 : Int32)) dX10_entry_189 (by decide) ?_
          refine am_goto F (tgt := 194) dX10_entry_190 (by decide) ?_
          exact am_zret F hr (by decide) h dX10_entry_194
  · have h := (if_pos c39).symm.trans h
    refine am_iconst F (v := (1 : Int32)) dX10_entry_115 (by decide) ?_
    exact am_zret F hr (by decide) h dX10_entry_116
def g_X10_entry_J68 (a1 : Int32) (a2 : Int32) (as1 : Int32) (as2 : Int32) (M : am_M) : Option (Int32 × am_M) := (am_b (g_X10_number  (am_s M 174 19 (as1 + as2))) (fun v7 M6 => (if a2 = (108 : Int32) then (am_b (g_X10_must (45 : Int32) M6) (fun _ M45 => (if a2 = (108 : Int32) then (am_b (g_X10_number  M45) (fun v48 M47 => (g_X10_entry_J103 a1 a2 v7 v48 M47))) else (g_X10_entry_J103 a1 a2 v7 (0 : Int32) M45)))) else (if a2 = (108 : Int32) then (am_b (g_X10_number  M6) (fun v42 M41 => (g_X10_entry_J103 a1 a2 v7 v42 M41))) else (g_X10_entry_J103 a1 a2 v7 (0 : Int32) M6)))))
set_option maxHeartbeats 4000000 in
set_option maxRecDepth 100000 in
theorem cj_X10_entry_J68 {l : Launch} {p : Program} {e : Env} {s : State} {m : MethodId} {args : Array Value} {below : List Frame} {meth : Method} {c : Code} {D : va_G} {E : Nat → ClassId} {z : Nat} (F : am_F p s m args meth c cX10_entry 6 RX10 D E z) (hr : meth.sig.returnType = (some .boolean)) (a1 : Int32) (a2 : Int32) (as1 : Int32) (as2 : Int32) (M : am_M) (r0 : Int32) (M1 : am_M) (h : g_X10_entry_J68 a1 a2 as1 as2 M = some (r0, M1)) : am_W p l e rm_X10_entry s m args below meth c (MQ below (va_Qi (fun (r9 : Int32) (u : am_M) => r9 = r0 ∧ u = M1) (am_BQ z E D) (fun q => z ≤ q)) args s 0 0 (fun q => z ≤ q)) 6 D E z 0 0 M 68 [(0, .ref (z + 174)), (1, .int a1), (2, .int a2)] [.int as2, .int as1, .ref (z + 174)] := by
  unfold g_X10_entry_J68 at h
  refine am_iadd F dX10_entry_68 ?_
  refine pf_X10_270 F lyk_174 dX10_entry_69 ?_
  refine am_aload_n F 0 dX10_entry_72 rfl rfl ?_
  obtain ⟨v7, M6, h5, h⟩ := am_bE h
  refine am_callVi F [] lyk_174 (by decide) rfl cw_X10_280 (c_X10_number l D E z  (am_s M 174 19 (as1 + as2)) v7 M6 h5) yn_X10_number rfl ⟨Nat.le_of_ble_eq_true rfl, Nat.le_of_ble_eq_true rfl⟩ rfl rfl (Nat.le_of_ble_eq_true rfl) ⟨Nat.zero_le _, Nat.zero_le _⟩ dX10_entry_73 rfl ?_
  refine am_istore_n F [(3, .int v7), (0, .ref (z + 174)), (1, .int a1), (2, .int a2)] dX10_entry_76 rfl (by decide) rfl ?_
  refine am_iload_n F 3 dX10_entry_77 rfl rfl ?_
  refine am_bipush F (v := (108 : Int32)) dX10_entry_78 (by decide) ?_
  refine am_icmp_ne F (tgt := 89) dX10_entry_80 (by decide) (fun c50 => ?_) (fun c50 => ?_)
  · have h := (if_neg c50).symm.trans h
    refine am_iload_n F 3 dX10_entry_89 rfl rfl ?_
    refine am_bipush F (v := (108 : Int32)) dX10_entry_90 (by decide) ?_
    refine am_icmp_ne F (tgt := 102) dX10_entry_92 (by decide) (fun c43 => ?_) (fun c43 => ?_)
    · have h := (if_neg c43).symm.trans h
      refine am_iconst F (v := (0 : Int32)) dX10_entry_102 (by decide) ?_
      exact am_sub (lv' := [(0, .ref (z + 174)), (1, .int a1), (2, .int a2), (3, .int v7)]) [1, 2, 3, 0] rfl (cj_X10_entry_J103 F hr a1 a2 v7 (0 : Int32) M6 r0 M1 h)
    · have h := (if_pos c43).symm.trans h
      refine am_aload_n F 1 dX10_entry_95 rfl rfl ?_
      obtain ⟨v42, M41, h40, h⟩ := am_bE h
      refine am_callVi F [] lyk_174 (by decide) rfl cw_X10_280 (c_X10_number l D E z  M6 v42 M41 h40) yn_X10_number rfl ⟨Nat.le_of_ble_eq_true rfl, Nat.le_of_ble_eq_true rfl⟩ rfl rfl (Nat.le_of_ble_eq_true rfl) ⟨Nat.zero_le _, Nat.zero_le _⟩ dX10_entry_96 rfl ?_
      refine am_goto F (tgt := 103) dX10_entry_99 (by decide) ?_
      exact am_sub (lv' := [(0, .ref (z + 174)), (1, .int a1), (2, .int a2), (3, .int v7)]) [1, 2, 3, 0] rfl (cj_X10_entry_J103 F hr a1 a2 v7 v42 M41 r0 M1 h)
  · have h := (if_pos c50).symm.trans h
    refine am_aload_n F 1 dX10_entry_83 rfl rfl ?_
    refine am_bipush F (v := (45 : Int32)) dX10_entry_84 (by decide) ?_
    obtain ⟨_, M45, h44, h⟩ := am_bE h
    refine am_callVv F [.int (45 : Int32)] lyk_174 (by decide) rfl cw_X10_283 (c_X10_must l D E z (45 : Int32) M6 M45 h44) yn_X10_must rfl ⟨Nat.le_of_ble_eq_true rfl, Nat.le_of_ble_eq_true rfl⟩ rfl rfl (Nat.le_of_ble_eq_true rfl) ⟨Nat.zero_le _, Nat.zero_le _⟩ dX10_entry_86 rfl ?_
    refine am_iload_n F 3 dX10_entry_89 rfl rfl ?_
    refine am_bipush F (v := (108 : Int32)) dX10_entry_90 (by decide) ?_
    refine am_icmp_ne F (tgt := 102) dX10_entry_92 (by decide) (fun c49 => ?_) (fun c49 => ?_)
    · have h := (if_neg c49).symm.trans h
      refine am_iconst F (v := (0 : Int32)) dX10_entry_102 (by decide) ?_
      exact am_sub (lv' := [(0, .ref (z + 174)), (1, .int a1), (2, .int a2), (3, .int v7)]) [1, 2, 3, 0] rfl (cj_X10_entry_J103 F hr a1 a2 v7 (0 : Int32) M45 r0 M1 h)
    · have h := (if_pos c49).symm.trans h
      refine am_aload_n F 1 dX10_entry_95 rfl rfl ?_
      obtain ⟨v48, M47, h46, h⟩ := am_bE h
      refine am_callVi F [] lyk_174 (by decide) rfl cw_X10_280 (c_X10_number l D E z  M45 v48 M47 h46) yn_X10_number rfl ⟨Nat.le_of_ble_eq_true rfl, Nat.le_of_ble_eq_true rfl⟩ rfl rfl (Nat.le_of_ble_eq_true rfl) ⟨Nat.zero_le _, Nat.zero_le _⟩ dX10_entry_96 rfl ?_
      refine am_goto F (tgt := 103) dX10_entry_99 (by decide) ?_
      exact am_sub (lv' := [(0, .ref (z + 174)), (1, .int a1), (2, .int a2), (3, .int v7)]) [1, 2, 3, 0] rfl (cj_X10_entry_J103 F hr a1 a2 v7 v48 M47 r0 M1 h)
def g_X10_entry_J48 (a1 : Int32) (a2 : Int32) (as1 : Int32) (M : am_M) : Option (Int32 × am_M) := (am_c (as1 = 0 ∨ as1 = 1) (if (am_g (am_s M 174 20 as1) 174 20) = (0 : Int32) then (g_X10_entry_J68 a1 a2 (am_g (am_s M 174 20 as1) 174 19) (0 : Int32) (am_s M 174 20 as1)) else (g_X10_entry_J68 a1 a2 (am_g (am_s M 174 20 as1) 174 19) (1 : Int32) (am_s M 174 20 as1))))
set_option maxHeartbeats 4000000 in
set_option maxRecDepth 100000 in
theorem cj_X10_entry_J48 {l : Launch} {p : Program} {e : Env} {s : State} {m : MethodId} {args : Array Value} {below : List Frame} {meth : Method} {c : Code} {D : va_G} {E : Nat → ClassId} {z : Nat} (F : am_F p s m args meth c cX10_entry 6 RX10 D E z) (hr : meth.sig.returnType = (some .boolean)) (a1 : Int32) (a2 : Int32) (as1 : Int32) (M : am_M) (r0 : Int32) (M1 : am_M) (h : g_X10_entry_J48 a1 a2 as1 M = some (r0, M1)) : am_W p l e rm_X10_entry s m args below meth c (MQ below (va_Qi (fun (r9 : Int32) (u : am_M) => r9 = r0 ∧ u = M1) (am_BQ z E D) (fun q => z ≤ q)) args s 0 0 (fun q => z ≤ q)) 6 D E z 0 0 M 48 [(0, .ref (z + 174)), (1, .int a1), (2, .int a2)] [.int as1, .ref (z + 174)] := by
  unfold g_X10_entry_J48 at h
  obtain ⟨q4, h⟩ := am_cE h
  refine pf_X10_273 F lyk_174 q4 dX10_entry_48 ?_
  refine am_aload_n F 0 dX10_entry_51 rfl rfl ?_
  refine am_dup F dX10_entry_52 rfl ?_
  refine gf_X10_270 F lyk_174 dX10_entry_53 ?_
  refine am_aload_n F 0 dX10_entry_56 rfl rfl ?_
  refine gf_X10_273 F lyk_174 dX10_entry_57 ?_
  refine am_if_eq F (tgt := 67) dX10_entry_60 (by decide) (fun c51 => ?_) (fun c51 => ?_)
  · have h := (if_pos c51).symm.trans h
    refine am_iconst F (v := (0 : Int32)) dX10_entry_67 (by decide) ?_
    exact am_sub (lv' := [(0, .ref (z + 174)), (1, .int a1), (2, .int a2)]) [0, 1, 2] rfl (cj_X10_entry_J68 F hr a1 a2 (am_g (am_s M 174 20 as1) 174 19) (0 : Int32) (am_s M 174 20 as1) r0 M1 h)
  · have h := (if_neg c51).symm.trans h
    refine am_iconst F (v := (1 : Int32)) dX10_entry_63 (by decide) ?_
    refine am_goto F (tgt := 68) dX10_entry_64 (by decide) ?_
    exact am_sub (lv' := [(0, .ref (z + 174)), (1, .int a1), (2, .int a2)]) [0, 1, 2] rfl (cj_X10_entry_J68 F hr a1 a2 (am_g (am_s M 174 20 as1) 174 19) (1 : Int32) (am_s M 174 20 as1) r0 M1 h)
def g_X10_entry (a1 : Int32) (M : am_M) : Option (Int32 × am_M) := (am_b (g_X10_here  M) (fun v3 M2 => (if (am_g M2 174 20) = (0 : Int32) then (g_X10_entry_J48 a1 v3 (0 : Int32) M2) else (if v3 = (119 : Int32) then (g_X10_entry_J48 a1 v3 (1 : Int32) M2) else (if v3 = (99 : Int32) then (g_X10_entry_J48 a1 v3 (1 : Int32) M2) else (if v3 = (102 : Int32) then (g_X10_entry_J48 a1 v3 (1 : Int32) M2) else (if v3 = (108 : Int32) then (g_X10_entry_J48 a1 v3 (1 : Int32) M2) else (if v3 = (114 : Int32) then (g_X10_entry_J48 a1 v3 (1 : Int32) M2) else (g_X10_entry_J48 a1 v3 (0 : Int32) M2)))))))))
set_option maxHeartbeats 4000000 in
set_option maxRecDepth 100000 in
theorem c_X10_entry (l : Launch) (D : va_G) (E : Nat → ClassId) (z : Nat) (a1 : Int32) (M : am_M) (r0 : Int32) (M1 : am_M) (h : g_X10_entry a1 M = some (r0, M1)) : am_Mi l yX10_entry cX10_entry 6 (some .boolean) rm_X10_entry D E z [.ref (z + 174), .int a1] M r0 M1 := by
  unfold g_X10_entry at h
  refine am_of (own := RX10) (by decide +kernel) rfl (by exact Nat.le_of_ble_eq_true rfl) ?_
  intro p e s m args below meth c F hr
  show am_W p l e rm_X10_entry s m args below meth c _ 6 D E z 0 0 M 0 [(0, .ref (z + 174)), (1, .int a1)] []
  refine am_aload_n F 0 dX10_entry_0 rfl rfl ?_
  obtain ⟨v3, M2, h1, h⟩ := am_bE h
  refine am_callVi F [] lyk_174 (by decide) rfl cw_X10_277 (c_X10_here l D E z  M v3 M2 h1) yn_X10_here rfl ⟨Nat.le_of_ble_eq_true rfl, Nat.le_of_ble_eq_true rfl⟩ rfl rfl (Nat.le_of_ble_eq_true rfl) ⟨Nat.zero_le _, Nat.zero_le _⟩ dX10_entry_1 rfl ?_
  refine am_istore_n F [(2, .int v3), (0, .ref (z + 174)), (1, .int a1)] dX10_entry_4 rfl (by decide) rfl ?_
  refine am_aload_n F 1 dX10_entry_5 rfl rfl ?_
  refine am_aload_n F 1 dX10_entry_6 rfl rfl ?_
  refine gf_X10_273 F lyk_174 dX10_entry_7 ?_
  refine am_if_eq F (tgt := 47) dX10_entry_10 (by decide) (fun c57 => ?_) (fun c57 => ?_)
  · have h := (if_pos c57).symm.trans h
    refine am_iconst F (v := (0 : Int32)) dX10_entry_47 (by decide) ?_
    exact am_sub (lv' := [(0, .ref (z + 174)), (1, .int a1), (2, .int v3)]) [1, 2, 0] rfl (cj_X10_entry_J48 F hr a1 v3 (0 : Int32) M2 r0 M1 h)
  · have h := (if_neg c57).symm.trans h
    refine am_iload_n F 0 dX10_entry_13 rfl rfl ?_
    refine am_bipush F (v := (119 : Int32)) dX10_entry_14 (by decide) ?_
    refine am_icmp_eq F (tgt := 43) dX10_entry_16 (by decide) (fun c56 => ?_) (fun c56 => ?_)
    · have h := (if_pos c56).symm.trans h
      refine am_iconst F (v := (1 : Int32)) dX10_entry_43 (by decide) ?_
      refine am_goto F (tgt := 48) dX10_entry_44 (by decide) ?_
      exact am_sub (lv' := [(0, .ref (z + 174)), (1, .int a1), (2, .int v3)]) [1, 2, 0] rfl (cj_X10_entry_J48 F hr a1 v3 (1 : Int32) M2 r0 M1 h)
    · have h := (if_neg c56).symm.trans h
      refine am_iload_n F 0 dX10_entry_19 rfl rfl ?_
      refine am_bipush F (v := (99 : Int32)) dX10_entry_20 (by decide) ?_
      refine am_icmp_eq F (tgt := 43) dX10_entry_22 (by decide) (fun c55 => ?_) (fun c55 => ?_)
      · have h := (if_pos c55).symm.trans h
        refine am_iconst F (v := (1 : Int32)) dX10_entry_43 (by decide) ?_
        refine am_goto F (tgt := 48) dX10_entry_44 (by decide) ?_
        exact am_sub (lv' := [(0, .ref (z + 174)), (1, .int a1), (2, .int v3)]) [1, 2, 0] rfl (cj_X10_entry_J48 F hr a1 v3 (1 : Int32) M2 r0 M1 h)
      · have h := (if_neg c55).symm.trans h
        refine am_iload_n F 0 dX10_entry_25 rfl rfl ?_
        refine am_bipush F (v := (102 : Int32)) dX10_entry_26 (by decide) ?_
        refine am_icmp_eq F (tgt := 43) dX10_entry_28 (by decide) (fun c54 => ?_) (fun c54 => ?_)
        · have h := (if_pos c54).symm.trans h
          refine am_iconst F (v := (1 : Int32)) dX10_entry_43 (by decide) ?_
          refine am_goto F (tgt := 48) dX10_entry_44 (by decide) ?_
          exact am_sub (lv' := [(0, .ref (z + 174)), (1, .int a1), (2, .int v3)]) [1, 2, 0] rfl (cj_X10_entry_J48 F hr a1 v3 (1 : Int32) M2 r0 M1 h)
        · have h := (if_neg c54).symm.trans h
          refine am_iload_n F 0 dX10_entry_31 rfl rfl ?_
          refine am_bipush F (v := (108 : Int32)) dX10_entry_32 (by decide) ?_
          refine am_icmp_eq F (tgt := 43) dX10_entry_34 (by decide) (fun c53 => ?_) (fun c53 => ?_)
          · have h := (if_pos c53).symm.trans h
            refine am_iconst F (v := (1 : Int32)) dX10_entry_43 (by decide) ?_
            refine am_goto F (tgt := 48) dX10_entry_44 (by decide) ?_
            exact am_sub (lv' := [(0, .ref (z + 174)), (1, .int a1), (2, .int v3)]) [1, 2, 0] rfl (cj_X10_entry_J48 F hr a1 v3 (1 : Int32) M2 r0 M1 h)
          · have h := (if_neg c53).symm.trans h
            refine am_iload_n F 0 dX10_entry_37 rfl rfl ?_
            refine am_bipush F (v := (114 : Int32)) dX10_entry_38 (by decide) ?_
            refine am_icmp_ne F (tgt := 47) dX10_entry_40 (by decide) (fun c52 => ?_) (fun c52 => ?_)
            · have h := (if_neg c52).symm.trans h
              refine am_iconst F (v := (0 : Int32)) dX10_entry_47 (by decide) ?_
              exact am_sub (lv' := [(0, .ref (z + 174)), (1, .int a1), (2, .int v3)]) [1, 2, 0] rfl (cj_X10_entry_J48 F hr a1 v3 (0 : Int32) M2 r0 M1 h)
            · have h := (if_pos c52).symm.trans h
              refine am_iconst F (v := (1 : Int32)) dX10_entry_43 (by decide) ?_
              refine am_goto F (tgt := 48) dX10_entry_44 (by decide) ?_
              exact am_sub (lv' := [(0, .ref (z + 174)), (1, .int a1), (2, .int v3)]) [1, 2, 0] rfl (cj_X10_entry_J48 F hr a1 v3 (1 : Int32) M2 r0 M1 h)
/-! AisleSchedulerModel.isText()Z -/
abbrev rm_X10_isText : Room := { frames := 8, cells := 0, slots := 0, locals := 189 }
theorem yn_X10_isText : am_yn yX10_isText 0 := ⟨⟨by decide +kernel, by decide +kernel⟩, by decide +kernel⟩
def g_X10_isText_L21  : Nat → am_M → Option ((Unit) × am_M)
  | 0, _ => none
  | n + 1, M => (if (am_g M 174 20) = (0 : Int32) then (some ((), M)) else (if (am_g M 174 7) ≤ (am_g M 174 19) then (some ((), M)) else (am_b (g_X10_entry (0 : Int32) M) (fun v3 M2 => (if v3 = (0 : Int32) then (g_X10_isText_L21  n  (am_s M2 174 20 (0 : Int32))) else (if (am_g M2 174 20) = (0 : Int32) then (g_X10_isText_L21  n  (am_s M2 174 20 (0 : Int32))) else (g_X10_isText_L21  n  (am_s M2 174 20 (1 : Int32)))))))))
set_option maxHeartbeats 4000000 in
set_option maxRecDepth 100000 in
theorem cl_X10_isText_L21 {l : Launch} {p : Program} {e : Env} {s : State} {m : MethodId} {args : Array Value} {below : List Frame} {meth : Method} {c : Code} {Q : State → Prop} {D : va_G} {E : Nat → ClassId} {z : Nat} (F : am_F p s m args meth c cX10_isText 1 RX10 D E z)  : ∀ (n : Nat) (M : am_M) (x : Unit) (M1 : am_M), g_X10_isText_L21  n  M = some (x, M1) → (am_W p l e rm_X10_isText s m args below meth c Q 1 D E z 0 0 M1 66 [(0, .ref (z + 174))] []) → am_W p l e rm_X10_isText s m args below meth c Q 1 D E z 0 0 M 21 [(0, .ref (z + 174))] [] := by
  intro n
  induction n with
  | zero => intro  M x M1 h K; cases h
  | succ n ih =>
    intro  M x M1 h K
    rw [g_X10_isText_L21] at h
    refine am_aload_n F 0 dX10_isText_21 rfl rfl ?_
    refine gf_X10_273 F lyk_174 dX10_isText_22 ?_
    refine am_if_eq F (tgt := 66) dX10_isText_25 (by decide) (fun c7 => ?_) (fun c7 => ?_)
    · have h := (if_pos c7).symm.trans h
      cases h
      exact am_sub (lv' := [(0, .ref (z + 174))]) [0] rfl (K)
    · have h := (if_neg c7).symm.trans h
      refine am_aload_n F 0 dX10_isText_28 rfl rfl ?_
      refine gf_X10_270 F lyk_174 dX10_isText_29 ?_
      refine am_aload_n F 0 dX10_isText_32 rfl rfl ?_
      refine gf_X10_267 F lyk_174 dX10_isText_33 ?_
      refine am_icmp_ge F (tgt := 66) dX10_isText_36 (by decide) (fun c6 => ?_) (fun c6 => ?_)
      · have h := (if_pos c6).symm.trans h
        cases h
        exact am_sub (lv' := [(0, .ref (z + 174))]) [0] rfl (K)
      · have h := (if_neg c6).symm.trans h
        refine am_aload_n F 0 dX10_isText_39 rfl rfl ?_
        refine am_aload_n F 0 dX10_isText_40 rfl rfl ?_
        refine am_iconst F (v := (0 : Int32)) dX10_isText_41 (by decide) ?_
        obtain ⟨v3, M2, h1, h⟩ := am_bE h
        refine am_callVi F [.int (0 : Int32)] lyk_174 (by decide) rfl cw_X10_295 (c_X10_entry l D E z (0 : Int32) M v3 M2 h1) yn_X10_entry rfl ⟨Nat.le_of_ble_eq_true rfl, Nat.le_of_ble_eq_true rfl⟩ rfl rfl (Nat.le_of_ble_eq_true rfl) ⟨Nat.zero_le _, Nat.zero_le _⟩ dX10_isText_42 rfl ?_
        refine am_if_eq F (tgt := 59) dX10_isText_45 (by decide) (fun c5 => ?_) (fun c5 => ?_)
        · have h := (if_pos c5).symm.trans h
          refine am_iconst F (v := (0 : Int32)) dX10_isText_59 (by decide) ?_
          refine pf_X10_273 F lyk_174 (by decide) dX10_isText_60 ?_
          refine am_goto F (tgt := 21) dX10_isText_63 (by decide) ?_
          exact am_sub (lv' := [(0, .ref (z + 174))]) [0] rfl (ih  (am_s M2 174 20 (0 : Int32)) _ _ h K)
        · have h := (if_neg c5).symm.trans h
          refine am_aload_n F 0 dX10_isText_48 rfl rfl ?_
          refine gf_X10_273 F lyk_174 dX10_isText_49 ?_
          refine am_if_eq F (tgt := 59) dX10_isText_52 (by decide) (fun c4 => ?_) (fun c4 => ?_)
          · have h := (if_pos c4).symm.trans h
            refine am_iconst F (v := (0 : Int32)) dX10_isText_59 (by decide) ?_
            refine pf_X10_273 F lyk_174 (by decide) dX10_isText_60 ?_
            refine am_goto F (tgt := 21) dX10_isText_63 (by decide) ?_
            exact am_sub (lv' := [(0, .ref (z + 174))]) [0] rfl (ih  (am_s M2 174 20 (0 : Int32)) _ _ h K)
          · have h := (if_neg c4).symm.trans h
            refine am_iconst F (v := (1 : Int32)) dX10_isText_55 (by decide) ?_
            refine am_goto F (tgt := 60) dX10_isText_56 (by decide) ?_
            refine pf_X10_273 F lyk_174 (by decide) dX10_isText_60 ?_
            refine am_goto F (tgt := 21) dX10_isText_63 (by decide) ?_
            exact am_sub (lv' := [(0, .ref (z + 174))]) [0] rfl (ih  (am_s M2 174 20 (1 : Int32)) _ _ h K)
def g_X10_isText  (M : am_M) : Option (Int32 × am_M) := (if (am_g (am_s M 174 19 (0 : Int32)) 174 7) ≤ (0 : Int32) then (am_b (g_X10_isText_L21  am_fu  (am_s (am_s M 174 19 (0 : Int32)) 174 20 (0 : Int32))) (fun x8 M9 => (am_c ((am_g M9 174 20) = 0 ∨ (am_g M9 174 20) = 1) (some ((am_g M9 174 20), M9))))) else (am_b (g_X10_isText_L21  am_fu  (am_s (am_s M 174 19 (0 : Int32)) 174 20 (1 : Int32))) (fun x12 M13 => (am_c ((am_g M13 174 20) = 0 ∨ (am_g M13 174 20) = 1) (some ((am_g M13 174 20), M13))))))
set_option maxHeartbeats 4000000 in
set_option maxRecDepth 100000 in
theorem c_X10_isText (l : Launch) (D : va_G) (E : Nat → ClassId) (z : Nat)  (M : am_M) (r0 : Int32) (M1 : am_M) (h : g_X10_isText  M = some (r0, M1)) : am_Mi l yX10_isText cX10_isText 1 (some .boolean) rm_X10_isText D E z [.ref (z + 174)] M r0 M1 := by
  unfold g_X10_isText at h
  refine am_of (own := RX10) (by decide +kernel) rfl (by exact Nat.le_of_ble_eq_true rfl) ?_
  intro p e s m args below meth c F hr
  show am_W p l e rm_X10_isText s m args below meth c _ 1 D E z 0 0 M 0 [(0, .ref (z + 174))] []
  refine am_aload_n F 0 dX10_isText_0 rfl rfl ?_
  refine am_iconst F (v := (0 : Int32)) dX10_isText_1 (by decide) ?_
  refine pf_X10_270 F lyk_174 dX10_isText_2 ?_
  refine am_aload_n F 0 dX10_isText_5 rfl rfl ?_
  refine am_aload_n F 0 dX10_isText_6 rfl rfl ?_
  refine gf_X10_267 F lyk_174 dX10_isText_7 ?_
  refine am_if_le F (tgt := 17) dX10_isText_10 (by decide) (fun c16 => ?_) (fun c16 => ?_)
  · have h := (if_pos c16).symm.trans h
    refine am_iconst F (v := (0 : Int32)) dX10_isText_17 (by decide) ?_
    refine pf_X10_273 F lyk_174 (by decide) dX10_isText_18 ?_
    obtain ⟨x8, M9, h10, h⟩ := am_bE h
    refine am_sub (lv' := [(0, .ref (z + 174))]) [0] rfl (cl_X10_isText_L21 F  am_fu  (am_s (am_s M 174 19 (0 : Int32)) 174 20 (0 : Int32)) x8 M9 h10 ?_)
    refine am_aload_n F 0 dX10_isText_66 rfl rfl ?_
    refine gf_X10_273 F lyk_174 dX10_isText_67 ?_
    obtain ⟨q11, h⟩ := am_cE h
    exact am_zret F hr q11 h dX10_isText_70
  · have h := (if_neg c16).symm.trans h
    refine am_iconst F (v := (1 : Int32)) dX10_isText_13 (by decide) ?_
    refine am_goto F (tgt := 18) dX10_isText_14 (by decide) ?_
    refine pf_X10_273 F lyk_174 (by decide) dX10_isText_18 ?_
    obtain ⟨x12, M13, h14, h⟩ := am_bE h
    refine am_sub (lv' := [(0, .ref (z + 174))]) [0] rfl (cl_X10_isText_L21 F  am_fu  (am_s (am_s M 174 19 (0 : Int32)) 174 20 (1 : Int32)) x12 M13 h14 ?_)
    refine am_aload_n F 0 dX10_isText_66 rfl rfl ?_
    refine gf_X10_273 F lyk_174 dX10_isText_67 ?_
    obtain ⟨q15, h⟩ := am_cE h
    exact am_zret F hr q15 h dX10_isText_70
