/-! printed by wip/whole/drive.py -/
/-! AisleSchedulerModel.canWait(IIII)Z -/
abbrev rm_X10_canWait : Room := { frames := 3, cells := 0, slots := 0, locals := 70 }
theorem yn_X10_canWait : am_yn yX10_canWait 4 := ⟨⟨by decide +kernel, by decide +kernel⟩, by decide +kernel⟩
def g_X10_canWait_L6 (a1 : Int32) (a2 : Int32) (a4 : Int32) : Nat → Int32 → Int32 → am_M → Option ((Int32) × am_M)
  | 0, _, _, _ => none
  | n + 1, a5, a6, M => (if a4 < a6 then (some (a5, M)) else (if a5 = (0 : Int32) then (g_X10_canWait_L6 a1 a2 a4 n (0 : Int32) (a6 + (1 : Int32)) M) else (am_b (g_X10_isFree a1 a2 a6 M) (fun v3 M2 => (if v3 = (0 : Int32) then (g_X10_canWait_L6 a1 a2 a4 n (0 : Int32) (a6 + (1 : Int32)) M2) else (g_X10_canWait_L6 a1 a2 a4 n (1 : Int32) (a6 + (1 : Int32)) M2))))))
set_option maxHeartbeats 4000000 in
set_option maxRecDepth 100000 in
theorem cl_X10_canWait_L6 {l : Launch} {p : Program} {e : Env} {s : State} {m : MethodId} {args : Array Value} {below : List Frame} {meth : Method} {c : Code} {Q : State → Prop} {D : va_G} {E : Nat → ClassId} {z : Nat} (F : am_F p s m args meth c cX10_canWait 7 RX10 D E z) (a1 : Int32) (a2 : Int32) (a4 : Int32) : ∀ (n : Nat) (a5 : Int32) (a6 : Int32) (M : am_M) (x : Int32) (M1 : am_M), g_X10_canWait_L6 a1 a2 a4 n a5 a6 M = some (x, M1) → (am_W p l e rm_X10_canWait s m args below meth c Q 7 D E z 0 0 M1 42 [(5, .int x)] []) → am_W p l e rm_X10_canWait s m args below meth c Q 7 D E z 0 0 M 6 [(0, .ref (z + 174)), (1, .int a1), (2, .int a2), (4, .int a4), (5, .int a5), (6, .int a6)] [] := by
  intro n
  induction n with
  | zero => intro a5 a6 M x M1 h K; cases h
  | succ n ih =>
    intro a5 a6 M x M1 h K
    rw [g_X10_canWait_L6] at h
    refine am_iload F 5 dX10_canWait_6 rfl ?_
    refine am_iload F 3 dX10_canWait_8 rfl ?_
    refine am_icmp_gt F (tgt := 42) dX10_canWait_10 (by decide) (fun c6 => ?_) (fun c6 => ?_)
    · have h := (if_pos c6).symm.trans h
      cases h
      exact am_sub (lv' := [(5, .int a5)]) [4] rfl (K)
    · have h := (if_neg c6).symm.trans h
      refine am_iload F 4 dX10_canWait_13 rfl ?_
      refine am_if_eq F (tgt := 33) dX10_canWait_15 (by decide) (fun c5 => ?_) (fun c5 => ?_)
      · have h := (if_pos c5).symm.trans h
        refine am_iconst F (v := (0 : Int32)) dX10_canWait_33 (by decide) ?_
        refine am_istore F [(5, .int (0 : Int32)), (0, .ref (z + 174)), (1, .int a1), (2, .int a2), (4, .int a4), (6, .int a6)] dX10_canWait_34 (by decide) rfl ?_
        refine am_iinc F [(6, .int (a6 + (1 : Int32))), (5, .int (0 : Int32)), (0, .ref (z + 174)), (1, .int a1), (2, .int a2), (4, .int a4)] 5 dX10_canWait_36 (by decide) rfl rfl rfl ?_
        refine am_goto F (tgt := 6) dX10_canWait_39 (by decide) ?_
        exact am_sub (lv' := [(0, .ref (z + 174)), (1, .int a1), (2, .int a2), (4, .int a4), (5, .int (0 : Int32)), (6, .int (a6 + (1 : Int32)))]) [2, 3, 4, 5, 1, 0] rfl (ih (0 : Int32) (a6 + (1 : Int32)) M _ _ h K)
      · have h := (if_neg c5).symm.trans h
        refine am_aload_n F 0 dX10_canWait_18 rfl rfl ?_
        refine am_iload_n F 1 dX10_canWait_19 rfl rfl ?_
        refine am_iload_n F 2 dX10_canWait_20 rfl rfl ?_
        refine am_iload F 5 dX10_canWait_21 rfl ?_
        obtain ⟨v3, M2, h1, h⟩ := am_bE h
        refine am_callVi F [.int a1, .int a2, .int a6] lyk_174 (by decide) rfl cw_X10_83 (c_X10_isFree l D E z a1 a2 a6 M v3 M2 h1) yn_X10_isFree rfl ⟨Nat.le_of_ble_eq_true rfl, Nat.le_of_ble_eq_true rfl⟩ rfl rfl (Nat.le_of_ble_eq_true rfl) ⟨Nat.zero_le _, Nat.zero_le _⟩ dX10_canWait_23 rfl ?_
        refine am_if_eq F (tgt := 33) dX10_canWait_26 (by decide) (fun c4 => ?_) (fun c4 => ?_)
        · have h := (if_pos c4).symm.trans h
          refine am_iconst F (v := (0 : Int32)) dX10_canWait_33 (by decide) ?_
          refine am_istore F [(5, .int (0 : Int32)), (0, .ref (z + 174)), (1, .int a1), (2, .int a2), (4, .int a4), (6, .int a6)] dX10_canWait_34 (by decide) rfl ?_
          refine am_iinc F [(6, .int (a6 + (1 : Int32))), (5, .int (0 : Int32)), (0, .ref (z + 174)), (1, .int a1), (2, .int a2), (4, .int a4)] 5 dX10_canWait_36 (by decide) rfl rfl rfl ?_
          refine am_goto F (tgt := 6) dX10_canWait_39 (by decide) ?_
          exact am_sub (lv' := [(0, .ref (z + 174)), (1, .int a1), (2, .int a2), (4, .int a4), (5, .int (0 : Int32)), (6, .int (a6 + (1 : Int32)))]) [2, 3, 4, 5, 1, 0] rfl (ih (0 : Int32) (a6 + (1 : Int32)) M2 _ _ h K)
        · have h := (if_neg c4).symm.trans h
          refine am_iconst F (v := (1 : Int32)) dX10_canWait_29 (by decide) ?_
          refine am_goto F (tgt := 34) dX10_canWait_30 (by decide) ?_
          refine am_istore F [(5, .int (1 : Int32)), (0, .ref (z + 174)), (1, .int a1), (2, .int a2), (4, .int a4), (6, .int a6)] dX10_canWait_34 (by decide) rfl ?_
          refine am_iinc F [(6, .int (a6 + (1 : Int32))), (5, .int (1 : Int32)), (0, .ref (z + 174)), (1, .int a1), (2, .int a2), (4, .int a4)] 5 dX10_canWait_36 (by decide) rfl rfl rfl ?_
          refine am_goto F (tgt := 6) dX10_canWait_39 (by decide) ?_
          exact am_sub (lv' := [(0, .ref (z + 174)), (1, .int a1), (2, .int a2), (4, .int a4), (5, .int (1 : Int32)), (6, .int (a6 + (1 : Int32)))]) [2, 3, 4, 5, 1, 0] rfl (ih (1 : Int32) (a6 + (1 : Int32)) M2 _ _ h K)
def g_X10_canWait (a1 : Int32) (a2 : Int32) (a3 : Int32) (a4 : Int32) (M : am_M) : Option (Int32 × am_M) := (am_b (g_X10_canWait_L6 a1 a2 a4 am_fu (1 : Int32) a3 M) (fun x7 M8 => (am_c (x7 = 0 ∨ x7 = 1) (some (x7, M8)))))
set_option maxHeartbeats 4000000 in
set_option maxRecDepth 100000 in
theorem c_X10_canWait (l : Launch) (D : va_G) (E : Nat → ClassId) (z : Nat) (a1 : Int32) (a2 : Int32) (a3 : Int32) (a4 : Int32) (M : am_M) (r0 : Int32) (M1 : am_M) (h : g_X10_canWait a1 a2 a3 a4 M = some (r0, M1)) : am_Mi l yX10_canWait cX10_canWait 7 (some .boolean) rm_X10_canWait D E z [.ref (z + 174), .int a1, .int a2, .int a3, .int a4] M r0 M1 := by
  unfold g_X10_canWait at h
  refine am_of (own := RX10) (by decide +kernel) rfl (by exact Nat.le_of_ble_eq_true rfl) ?_
  intro p e s m args below meth c F hr
  show am_W p l e rm_X10_canWait s m args below meth c _ 7 D E z 0 0 M 0 [(0, .ref (z + 174)), (1, .int a1), (2, .int a2), (3, .int a3), (4, .int a4)] []
  refine am_iconst F (v := (1 : Int32)) dX10_canWait_0 (by decide) ?_
  refine am_istore F [(5, .int (1 : Int32)), (0, .ref (z + 174)), (1, .int a1), (2, .int a2), (3, .int a3), (4, .int a4)] dX10_canWait_1 (by decide) rfl ?_
  refine am_iload_n F 4 dX10_canWait_3 rfl rfl ?_
  refine am_istore F [(6, .int a3), (5, .int (1 : Int32)), (0, .ref (z + 174)), (1, .int a1), (2, .int a2), (3, .int a3), (4, .int a4)] dX10_canWait_4 (by decide) rfl ?_
  obtain ⟨x7, M8, h9, h⟩ := am_bE h
  refine am_sub (lv' := [(0, .ref (z + 174)), (1, .int a1), (2, .int a2), (4, .int a4), (5, .int (1 : Int32)), (6, .int a3)]) [2, 3, 4, 6, 1, 0] rfl (cl_X10_canWait_L6 F a1 a2 a4 am_fu (1 : Int32) a3 M x7 M8 h9 ?_)
  refine am_iload F 0 dX10_canWait_42 rfl ?_
  obtain ⟨q10, h⟩ := am_cE h
  exact am_zret F hr q10 h dX10_canWait_44
/-! AisleSchedulerModel.costsBack(IIII)V -/
abbrev rm_X10_costsBack : Room := { frames := 4, cells := 0, slots := 0, locals := 95 }
theorem yn_X10_costsBack : am_yn yX10_costsBack 4 := ⟨⟨by decide +kernel, by decide +kernel⟩, by decide +kernel⟩
def g_X10_costsBack_L3 (a1 : Int32) (a2 : Int32) (a3 : Int32) (a4 : Int32) : Nat → Int32 → am_M → Option ((Unit) × am_M)
  | 0, _, _ => none
  | n + 1, a5, M => (if (1240 : Int32) ≤ a5 then (some ((), M)) else (am_ci a5 1240 (g_X10_costsBack_L3 a1 a2 a3 a4 n (a5 + (1 : Int32)) (am_s M 183 a5.toNatClampNeg (1000000 : Int32)))))
set_option maxHeartbeats 4000000 in
set_option maxRecDepth 100000 in
theorem cl_X10_costsBack_L3 {l : Launch} {p : Program} {e : Env} {s : State} {m : MethodId} {args : Array Value} {below : List Frame} {meth : Method} {c : Code} {Q : State → Prop} {D : va_G} {E : Nat → ClassId} {z : Nat} (F : am_F p s m args meth c cX10_costsBack 8 RX10 D E z) (a1 : Int32) (a2 : Int32) (a3 : Int32) (a4 : Int32) : ∀ (n : Nat) (a5 : Int32) (M : am_M) (x : Unit) (M1 : am_M), g_X10_costsBack_L3 a1 a2 a3 a4 n a5 M = some (x, M1) → (am_W p l e rm_X10_costsBack s m args below meth c Q 8 D E z 0 0 M1 26 [(0, .ref (z + 174)), (1, .int a1), (2, .int a2), (3, .int a3), (4, .int a4)] []) → am_W p l e rm_X10_costsBack s m args below meth c Q 8 D E z 0 0 M 3 [(0, .ref (z + 174)), (1, .int a1), (2, .int a2), (3, .int a3), (4, .int a4), (5, .int a5)] [] := by
  intro n
  induction n with
  | zero => intro a5 M x M1 h K; cases h
  | succ n ih =>
    intro a5 M x M1 h K
    rw [g_X10_costsBack_L3] at h
    refine am_iload F 5 dX10_costsBack_3 rfl ?_
    refine am_sipush F (v := (1240 : Int32)) dX10_costsBack_5 (by decide) ?_
    refine am_icmp_ge F (tgt := 26) dX10_costsBack_8 (by decide) (fun c2 => ?_) (fun c2 => ?_)
    · have h := (if_pos c2).symm.trans h
      cases h
      exact am_sub (lv' := [(0, .ref (z + 174)), (1, .int a1), (2, .int a2), (3, .int a3), (4, .int a4)]) [0, 1, 2, 3, 4] rfl (K)
    · have h := (if_neg c2).symm.trans h
      refine am_aload_n F 0 dX10_costsBack_11 rfl rfl ?_
      refine gf_X10_42 F lyk_174 dX10_costsBack_12 ?_
      refine am_iload F 5 dX10_costsBack_15 rfl ?_
      refine am_ldc F (v := (1000000 : Int32)) dX10_costsBack_17 wd_1480 ?_
      obtain ⟨q1, h⟩ := am_ciE h
      refine am_iast F lyk_183 q1 dX10_costsBack_19 ?_
      refine am_iinc F [(5, .int (a5 + (1 : Int32))), (0, .ref (z + 174)), (1, .int a1), (2, .int a2), (3, .int a3), (4, .int a4)] 5 dX10_costsBack_20 (by decide) rfl rfl rfl ?_
      refine am_goto F (tgt := 3) dX10_costsBack_23 (by decide) ?_
      exact am_sub (lv' := [(0, .ref (z + 174)), (1, .int a1), (2, .int a2), (3, .int a3), (4, .int a4), (5, .int (a5 + (1 : Int32)))]) [1, 2, 3, 4, 5, 0] rfl (ih (a5 + (1 : Int32)) (am_s M 183 a5.toNatClampNeg (1000000 : Int32)) _ _ h K)
def g_X10_costsBack_L64 (a1 : Int32) (a3 : Int32) (a4 : Int32) (a5 : Int32) (a6 : Int32) : Nat → Int32 → am_M → Option ((Unit) × am_M)
  | 0, _, _ => none
  | n + 1, a7, M => (if (7 : Int32) ≤ a7 then (some ((), M)) else (am_ci (((40 : Int32) * a5) + a6) 1240 (if (am_g M 182 (((40 : Int32) * a5) + a6).toNatClampNeg) = (0 : Int32) then (some ((), M)) else (am_b (g_X10_takes a7 M) (fun v10 M9 => (if a4 < (a5 + v10) then (g_X10_costsBack_L64 a1 a3 a4 a5 a6 n (a7 + (1 : Int32)) M9) else (am_b (g_X10_isLegal a1 a6 a7 a5 M9) (fun v13 M12 => (if v13 = (0 : Int32) then (g_X10_costsBack_L64 a1 a3 a4 a5 a6 n (a7 + (1 : Int32)) M12) else (am_ci (((40 : Int32) * a5) + a6) 1240 (am_b (g_X10_costs a7 M12) (fun v17 M16 => (am_b (g_X10_takes a7 M16) (fun v20 M19 => (am_b (g_X10_moved a6 a7 M19) (fun v23 M22 => (am_ci (((40 : Int32) * (a5 + v20)) + v23) 1240 (am_ci (((40 : Int32) * a5) + a6) 1240 (g_X10_costsBack_L64 a1 a3 a4 a5 a6 n (a7 + (1 : Int32)) (am_s M22 183 (((40 : Int32) * a5) + a6).toNatClampNeg (if (v17 + (am_g M22 183 (((40 : Int32) * (a5 + v20)) + v23).toNatClampNeg)) < (am_g M12 183 (((40 : Int32) * a5) + a6).toNatClampNeg) then (v17 + (am_g M22 183 (((40 : Int32) * (a5 + v20)) + v23).toNatClampNeg)) else (am_g M12 183 (((40 : Int32) * a5) + a6).toNatClampNeg))))))))))))))))))))))
set_option maxHeartbeats 4000000 in
set_option maxRecDepth 100000 in
theorem cl_X10_costsBack_L64 {l : Launch} {p : Program} {e : Env} {s : State} {m : MethodId} {args : Array Value} {below : List Frame} {meth : Method} {c : Code} {Q : State → Prop} {D : va_G} {E : Nat → ClassId} {z : Nat} (F : am_F p s m args meth c cX10_costsBack 8 RX10 D E z) (a1 : Int32) (a3 : Int32) (a4 : Int32) (a5 : Int32) (a6 : Int32) : ∀ (n : Nat) (a7 : Int32) (M : am_M) (x : Unit) (M1 : am_M), g_X10_costsBack_L64 a1 a3 a4 a5 a6 n a7 M = some (x, M1) → (am_W p l e rm_X10_costsBack s m args below meth c Q 8 D E z 0 0 M1 180 [(0, .ref (z + 174)), (1, .int a1), (3, .int a3), (4, .int a4), (5, .int a5), (6, .int a6)] []) → am_W p l e rm_X10_costsBack s m args below meth c Q 8 D E z 0 0 M 64 [(0, .ref (z + 174)), (1, .int a1), (3, .int a3), (4, .int a4), (5, .int a5), (6, .int a6), (7, .int a7)] [] := by
  intro n
  induction n with
  | zero => intro a7 M x M1 h K; cases h
  | succ n ih =>
    intro a7 M x M1 h K
    rw [g_X10_costsBack_L64] at h
    refine am_iload F 6 dX10_costsBack_64 rfl ?_
    refine am_bipush F (v := (7 : Int32)) dX10_costsBack_66 (by decide) ?_
    refine am_icmp_ge F (tgt := 180) dX10_costsBack_68 (by decide) (fun c29 => ?_) (fun c29 => ?_)
    · have h := (if_pos c29).symm.trans h
      cases h
      exact am_sub (lv' := [(0, .ref (z + 174)), (1, .int a1), (3, .int a3), (4, .int a4), (5, .int a5), (6, .int a6)]) [0, 1, 2, 3, 4, 5] rfl (K)
    · have h := (if_neg c29).symm.trans h
      refine am_aload_n F 0 dX10_costsBack_71 rfl rfl ?_
      refine gf_X10_38 F lyk_174 dX10_costsBack_72 ?_
      refine am_bipush F (v := (40 : Int32)) dX10_costsBack_75 (by decide) ?_
      refine am_iload F 4 dX10_costsBack_77 rfl ?_
      refine am_imul F dX10_costsBack_79 ?_
      refine am_iload F 5 dX10_costsBack_80 rfl ?_
      refine am_iadd F dX10_costsBack_82 ?_
      obtain ⟨q7, h⟩ := am_ciE h
      refine am_zald F lyk_182 q7 dX10_costsBack_83 ?_
      refine am_if_eq F (tgt := 180) dX10_costsBack_84 (by decide) (fun c28 => ?_) (fun c28 => ?_)
      · have h := (if_pos c28).symm.trans h
        cases h
        exact am_sub (lv' := [(0, .ref (z + 174)), (1, .int a1), (3, .int a3), (4, .int a4), (5, .int a5), (6, .int a6)]) [0, 1, 2, 3, 4, 5] rfl (K)
      · have h := (if_neg c28).symm.trans h
        refine am_iload F 4 dX10_costsBack_87 rfl ?_
        refine am_iload F 6 dX10_costsBack_89 rfl ?_
        obtain ⟨v10, M9, h8, h⟩ := am_bE h
        refine am_callSi F [.int a7] cw_X10_68 rfl (c_X10_takes l D E z a7 M v10 M9 h8) yn_X10_takes rfl ⟨Nat.le_of_ble_eq_true rfl, Nat.le_of_ble_eq_true rfl⟩ rfl rfl (Nat.le_of_ble_eq_true rfl) ⟨Nat.zero_le _, Nat.zero_le _⟩ dX10_costsBack_91 rfl ?_
        refine am_iadd F dX10_costsBack_94 ?_
        refine am_iload F 3 dX10_costsBack_95 rfl ?_
        refine am_icmp_gt F (tgt := 174) dX10_costsBack_97 (by decide) (fun c27 => ?_) (fun c27 => ?_)
        · have h := (if_pos c27).symm.trans h
          refine am_iinc F [(7, .int (a7 + (1 : Int32))), (0, .ref (z + 174)), (1, .int a1), (3, .int a3), (4, .int a4), (5, .int a5), (6, .int a6)] 6 dX10_costsBack_174 (by decide) rfl rfl rfl ?_
          refine am_goto F (tgt := 64) dX10_costsBack_177 (by decide) ?_
          exact am_sub (lv' := [(0, .ref (z + 174)), (1, .int a1), (3, .int a3), (4, .int a4), (5, .int a5), (6, .int a6), (7, .int (a7 + (1 : Int32)))]) [1, 2, 3, 4, 5, 6, 0] rfl (ih (a7 + (1 : Int32)) M9 _ _ h K)
        · have h := (if_neg c27).symm.trans h
          refine am_aload_n F 0 dX10_costsBack_100 rfl rfl ?_
          refine am_iload_n F 1 dX10_costsBack_101 rfl rfl ?_
          refine am_iload F 5 dX10_costsBack_102 rfl ?_
          refine am_iload F 6 dX10_costsBack_104 rfl ?_
          refine am_iload F 4 dX10_costsBack_106 rfl ?_
          obtain ⟨v13, M12, h11, h⟩ := am_bE h
          refine am_callVi F [.int a1, .int a6, .int a7, .int a5] lyk_174 (by decide) rfl cw_X10_97 (c_X10_isLegal l D E z a1 a6 a7 a5 M9 v13 M12 h11) yn_X10_isLegal rfl ⟨Nat.le_of_ble_eq_true rfl, Nat.le_of_ble_eq_true rfl⟩ rfl rfl (Nat.le_of_ble_eq_true rfl) ⟨Nat.zero_le _, Nat.zero_le _⟩ dX10_costsBack_108 rfl ?_
          refine am_if_eq F (tgt := 174) dX10_costsBack_111 (by decide) (fun c26 => ?_) (fun c26 => ?_)
          · have h := (if_pos c26).symm.trans h
            refine am_iinc F [(7, .int (a7 + (1 : Int32))), (0, .ref (z + 174)), (1, .int a1), (3, .int a3), (4, .int a4), (5, .int a5), (6, .int a6)] 6 dX10_costsBack_174 (by decide) rfl rfl rfl ?_
            refine am_goto F (tgt := 64) dX10_costsBack_177 (by decide) ?_
            exact am_sub (lv' := [(0, .ref (z + 174)), (1, .int a1), (3, .int a3), (4, .int a4), (5, .int a5), (6, .int a6), (7, .int (a7 + (1 : Int32)))]) [1, 2, 3, 4, 5, 6, 0] rfl (ih (a7 + (1 : Int32)) M12 _ _ h K)
          · have h := (if_neg c26).symm.trans h
            refine am_aload_n F 0 dX10_costsBack_114 rfl rfl ?_
            refine gf_X10_42 F lyk_174 dX10_costsBack_115 ?_
            refine am_bipush F (v := (40 : Int32)) dX10_costsBack_118 (by decide) ?_
            refine am_iload F 4 dX10_costsBack_120 rfl ?_
            refine am_imul F dX10_costsBack_122 ?_
            refine am_iload F 5 dX10_costsBack_123 rfl ?_
            refine am_iadd F dX10_costsBack_125 ?_
            refine am_aload_n F 0 dX10_costsBack_126 rfl rfl ?_
            refine gf_X10_42 F lyk_174 dX10_costsBack_127 ?_
            refine am_bipush F (v := (40 : Int32)) dX10_costsBack_130 (by decide) ?_
            refine am_iload F 4 dX10_costsBack_132 rfl ?_
            refine am_imul F dX10_costsBack_134 ?_
            refine am_iload F 5 dX10_costsBack_135 rfl ?_
            refine am_iadd F dX10_costsBack_137 ?_
            obtain ⟨q14, h⟩ := am_ciE h
            refine am_iald F lyk_183 q14 dX10_costsBack_138 ?_
            refine am_iload F 6 dX10_costsBack_139 rfl ?_
            obtain ⟨v17, M16, h15, h⟩ := am_bE h
            refine am_callSi F [.int a7] cw_X10_101 rfl (c_X10_costs l D E z a7 M12 v17 M16 h15) yn_X10_costs rfl ⟨Nat.le_of_ble_eq_true rfl, Nat.le_of_ble_eq_true rfl⟩ rfl rfl (Nat.le_of_ble_eq_true rfl) ⟨Nat.zero_le _, Nat.zero_le _⟩ dX10_costsBack_141 rfl ?_
            refine am_aload_n F 0 dX10_costsBack_144 rfl rfl ?_
            refine gf_X10_42 F lyk_174 dX10_costsBack_145 ?_
            refine am_bipush F (v := (40 : Int32)) dX10_costsBack_148 (by decide) ?_
            refine am_iload F 4 dX10_costsBack_150 rfl ?_
            refine am_iload F 6 dX10_costsBack_152 rfl ?_
            obtain ⟨v20, M19, h18, h⟩ := am_bE h
            refine am_callSi F [.int a7] cw_X10_68 rfl (c_X10_takes l D E z a7 M16 v20 M19 h18) yn_X10_takes rfl ⟨Nat.le_of_ble_eq_true rfl, Nat.le_of_ble_eq_true rfl⟩ rfl rfl (Nat.le_of_ble_eq_true rfl) ⟨Nat.zero_le _, Nat.zero_le _⟩ dX10_costsBack_154 rfl ?_
            refine am_iadd F dX10_costsBack_157 ?_
            refine am_imul F dX10_costsBack_158 ?_
            refine am_aload_n F 0 dX10_costsBack_159 rfl rfl ?_
            refine am_iload F 5 dX10_costsBack_160 rfl ?_
            refine am_iload F 6 dX10_costsBack_162 rfl ?_
            obtain ⟨v23, M22, h21, h⟩ := am_bE h
            refine am_callVi F [.int a6, .int a7] lyk_174 (by decide) rfl cw_X10_72 (c_X10_moved l D E z a6 a7 M19 v23 M22 h21) yn_X10_moved rfl ⟨Nat.le_of_ble_eq_true rfl, Nat.le_of_ble_eq_true rfl⟩ rfl rfl (Nat.le_of_ble_eq_true rfl) ⟨Nat.zero_le _, Nat.zero_le _⟩ dX10_costsBack_164 rfl ?_
            refine am_iadd F dX10_costsBack_167 ?_
            obtain ⟨q24, h⟩ := am_ciE h
            refine am_iald F lyk_183 q24 dX10_costsBack_168 ?_
            refine am_iadd F dX10_costsBack_169 ?_
            refine am_min F dX10_costsBack_170 wd_1485 (Nat.le_of_ble_eq_true rfl) (Nat.le_of_ble_eq_true rfl) (Nat.le_of_ble_eq_true rfl) (Nat.le_of_ble_eq_true rfl) ?_
            obtain ⟨q25, h⟩ := am_ciE h
            refine am_iast F lyk_183 q25 dX10_costsBack_173 ?_
            refine am_iinc F [(7, .int (a7 + (1 : Int32))), (0, .ref (z + 174)), (1, .int a1), (3, .int a3), (4, .int a4), (5, .int a5), (6, .int a6)] 6 dX10_costsBack_174 (by decide) rfl rfl rfl ?_
            refine am_goto F (tgt := 64) dX10_costsBack_177 (by decide) ?_
            exact am_sub (lv' := [(0, .ref (z + 174)), (1, .int a1), (3, .int a3), (4, .int a4), (5, .int a5), (6, .int a6), (7, .int (a7 + (1 : Int32)))]) [1, 2, 3, 4, 5, 6, 0] rfl (ih (a7 + (1 : Int32)) (am_s M22 183 (((40 : Int32) * a5) + a6).toNatClampNeg (if (v17 + (am_g M22 183 (((40 : Int32) * (a5 + v20)) + v23).toNatClampNeg)) < (am_g M12 183 (((40 : Int32) * a5) + a6).toNatClampNeg) then (v17 + (am_g M22 183 (((40 : Int32) * (a5 + v20)) + v23).toNatClampNeg)) else (am_g M12 183 (((40 : Int32) * a5) + a6).toNatClampNeg))) _ _ h K)
def g_X10_costsBack_L54 (a1 : Int32) (a3 : Int32) (a4 : Int32) (a5 : Int32) : Nat → Int32 → am_M → Option ((Unit) × am_M)
  | 0, _, _ => none
  | n + 1, a6, M => (if (40 : Int32) ≤ a6 then (some ((), M)) else (am_b (g_X10_costsBack_L64 a1 a3 a4 a5 a6 am_fu (0 : Int32) M) (fun x30 M31 => (g_X10_costsBack_L54 a1 a3 a4 a5 n (a6 + (1 : Int32)) M31))))
set_option maxHeartbeats 4000000 in
set_option maxRecDepth 100000 in
theorem cl_X10_costsBack_L54 {l : Launch} {p : Program} {e : Env} {s : State} {m : MethodId} {args : Array Value} {below : List Frame} {meth : Method} {c : Code} {Q : State → Prop} {D : va_G} {E : Nat → ClassId} {z : Nat} (F : am_F p s m args meth c cX10_costsBack 8 RX10 D E z) (a1 : Int32) (a3 : Int32) (a4 : Int32) (a5 : Int32) : ∀ (n : Nat) (a6 : Int32) (M : am_M) (x : Unit) (M1 : am_M), g_X10_costsBack_L54 a1 a3 a4 a5 n a6 M = some (x, M1) → (am_W p l e rm_X10_costsBack s m args below meth c Q 8 D E z 0 0 M1 186 [(0, .ref (z + 174)), (1, .int a1), (3, .int a3), (4, .int a4), (5, .int a5)] []) → am_W p l e rm_X10_costsBack s m args below meth c Q 8 D E z 0 0 M 54 [(0, .ref (z + 174)), (1, .int a1), (3, .int a3), (4, .int a4), (5, .int a5), (6, .int a6)] [] := by
  intro n
  induction n with
  | zero => intro a6 M x M1 h K; cases h
  | succ n ih =>
    intro a6 M x M1 h K
    rw [g_X10_costsBack_L54] at h
    refine am_iload F 5 dX10_costsBack_54 rfl ?_
    refine am_bipush F (v := (40 : Int32)) dX10_costsBack_56 (by decide) ?_
    refine am_icmp_ge F (tgt := 186) dX10_costsBack_58 (by decide) (fun c33 => ?_) (fun c33 => ?_)
    · have h := (if_pos c33).symm.trans h
      cases h
      exact am_sub (lv' := [(0, .ref (z + 174)), (1, .int a1), (3, .int a3), (4, .int a4), (5, .int a5)]) [0, 1, 2, 3, 4] rfl (K)
    · have h := (if_neg c33).symm.trans h
      refine am_iconst F (v := (0 : Int32)) dX10_costsBack_61 (by decide) ?_
      refine am_istore F [(7, .int (0 : Int32)), (0, .ref (z + 174)), (1, .int a1), (3, .int a3), (4, .int a4), (5, .int a5), (6, .int a6)] dX10_costsBack_62 (by decide) rfl ?_
      obtain ⟨x30, M31, h32, h⟩ := am_bE h
      refine am_sub (lv' := [(0, .ref (z + 174)), (1, .int a1), (3, .int a3), (4, .int a4), (5, .int a5), (6, .int a6), (7, .int (0 : Int32))]) [1, 2, 3, 4, 5, 6, 0] rfl (cl_X10_costsBack_L64 F a1 a3 a4 a5 a6 am_fu (0 : Int32) M x30 M31 h32 ?_)
      refine am_iinc F [(6, .int (a6 + (1 : Int32))), (0, .ref (z + 174)), (1, .int a1), (3, .int a3), (4, .int a4), (5, .int a5)] 5 dX10_costsBack_180 (by decide) rfl rfl rfl ?_
      refine am_goto F (tgt := 54) dX10_costsBack_183 (by decide) ?_
      exact am_sub (lv' := [(0, .ref (z + 174)), (1, .int a1), (3, .int a3), (4, .int a4), (5, .int a5), (6, .int (a6 + (1 : Int32)))]) [1, 2, 3, 4, 5, 0] rfl (ih (a6 + (1 : Int32)) M31 _ _ h K)
def g_X10_costsBack_L45 (a1 : Int32) (a3 : Int32) (a4 : Int32) : Nat → Int32 → am_M → Option ((Unit) × am_M)
  | 0, _, _ => none
  | n + 1, a5, M => (if a5 < a3 then (some ((), M)) else (am_b (g_X10_costsBack_L54 a1 a3 a4 a5 am_fu (0 : Int32) M) (fun x34 M35 => (g_X10_costsBack_L45 a1 a3 a4 n (a5 + (-1 : Int32)) M35))))
set_option maxHeartbeats 4000000 in
set_option maxRecDepth 100000 in
theorem cl_X10_costsBack_L45 {l : Launch} {p : Program} {e : Env} {s : State} {m : MethodId} {args : Array Value} {below : List Frame} {meth : Method} {c : Code} {Q : State → Prop} {D : va_G} {E : Nat → ClassId} {z : Nat} (F : am_F p s m args meth c cX10_costsBack 8 RX10 D E z) (a1 : Int32) (a3 : Int32) (a4 : Int32) : ∀ (n : Nat) (a5 : Int32) (M : am_M) (x : Unit) (M1 : am_M), g_X10_costsBack_L45 a1 a3 a4 n a5 M = some (x, M1) → (am_W p l e rm_X10_costsBack s m args below meth c Q 8 D E z 0 0 M1 192 [] []) → am_W p l e rm_X10_costsBack s m args below meth c Q 8 D E z 0 0 M 45 [(0, .ref (z + 174)), (1, .int a1), (3, .int a3), (4, .int a4), (5, .int a5)] [] := by
  intro n
  induction n with
  | zero => intro a5 M x M1 h K; cases h
  | succ n ih =>
    intro a5 M x M1 h K
    rw [g_X10_costsBack_L45] at h
    refine am_iload F 4 dX10_costsBack_45 rfl ?_
    refine am_iload_n F 2 dX10_costsBack_47 rfl rfl ?_
    refine am_icmp_lt F (tgt := 192) dX10_costsBack_48 (by decide) (fun c37 => ?_) (fun c37 => ?_)
    · have h := (if_pos c37).symm.trans h
      cases h
      exact am_sub (lv' := []) [] rfl (K)
    · have h := (if_neg c37).symm.trans h
      refine am_iconst F (v := (0 : Int32)) dX10_costsBack_51 (by decide) ?_
      refine am_istore F [(6, .int (0 : Int32)), (0, .ref (z + 174)), (1, .int a1), (3, .int a3), (4, .int a4), (5, .int a5)] dX10_costsBack_52 (by decide) rfl ?_
      obtain ⟨x34, M35, h36, h⟩ := am_bE h
      refine am_sub (lv' := [(0, .ref (z + 174)), (1, .int a1), (3, .int a3), (4, .int a4), (5, .int a5), (6, .int (0 : Int32))]) [1, 2, 3, 4, 5, 0] rfl (cl_X10_costsBack_L54 F a1 a3 a4 a5 am_fu (0 : Int32) M x34 M35 h36 ?_)
      refine am_iinc F [(5, .int (a5 + (-1 : Int32))), (0, .ref (z + 174)), (1, .int a1), (3, .int a3), (4, .int a4)] 4 dX10_costsBack_186 (by decide) rfl rfl rfl ?_
      refine am_goto F (tgt := 45) dX10_costsBack_189 (by decide) ?_
      exact am_sub (lv' := [(0, .ref (z + 174)), (1, .int a1), (3, .int a3), (4, .int a4), (5, .int (a5 + (-1 : Int32)))]) [1, 2, 3, 4, 0] rfl (ih (a5 + (-1 : Int32)) M35 _ _ h K)
def g_X10_costsBack (a1 : Int32) (a2 : Int32) (a3 : Int32) (a4 : Int32) (M : am_M) : Option (Unit × am_M) := (am_b (g_X10_costsBack_L3 a1 a2 a3 a4 am_fu (0 : Int32) M) (fun x3 M4 => (am_ci (((40 : Int32) * a4) + a2) 1240 (am_b (g_X10_costsBack_L45 a1 a3 a4 am_fu (a4 - (1 : Int32)) (am_s M4 183 (((40 : Int32) * a4) + a2).toNatClampNeg (0 : Int32))) (fun x38 M39 => (some ((), M39)))))))
set_option maxHeartbeats 4000000 in
set_option maxRecDepth 100000 in
theorem c_X10_costsBack (l : Launch) (D : va_G) (E : Nat → ClassId) (z : Nat) (a1 : Int32) (a2 : Int32) (a3 : Int32) (a4 : Int32) (M : am_M)  (M1 : am_M) (h : g_X10_costsBack a1 a2 a3 a4 M = some ((), M1)) : am_Mv l yX10_costsBack cX10_costsBack 8 none rm_X10_costsBack D E z [.ref (z + 174), .int a1, .int a2, .int a3, .int a4] M M1 := by
  unfold g_X10_costsBack at h
  refine am_of (own := RX10) (by decide +kernel) rfl (by exact Nat.le_of_ble_eq_true rfl) ?_
  intro p e s m args below meth c F hr
  show am_W p l e rm_X10_costsBack s m args below meth c _ 8 D E z 0 0 M 0 [(0, .ref (z + 174)), (1, .int a1), (2, .int a2), (3, .int a3), (4, .int a4)] []
  refine am_iconst F (v := (0 : Int32)) dX10_costsBack_0 (by decide) ?_
  refine am_istore F [(5, .int (0 : Int32)), (0, .ref (z + 174)), (1, .int a1), (2, .int a2), (3, .int a3), (4, .int a4)] dX10_costsBack_1 (by decide) rfl ?_
  obtain ⟨x3, M4, h5, h⟩ := am_bE h
  refine am_sub (lv' := [(0, .ref (z + 174)), (1, .int a1), (2, .int a2), (3, .int a3), (4, .int a4), (5, .int (0 : Int32))]) [1, 2, 3, 4, 5, 0] rfl (cl_X10_costsBack_L3 F a1 a2 a3 a4 am_fu (0 : Int32) M x3 M4 h5 ?_)
  refine am_aload_n F 0 dX10_costsBack_26 rfl rfl ?_
  refine gf_X10_42 F lyk_174 dX10_costsBack_27 ?_
  refine am_bipush F (v := (40 : Int32)) dX10_costsBack_30 (by decide) ?_
  refine am_iload F 4 dX10_costsBack_32 rfl ?_
  refine am_imul F dX10_costsBack_34 ?_
  refine am_iload_n F 2 dX10_costsBack_35 rfl rfl ?_
  refine am_iadd F dX10_costsBack_36 ?_
  refine am_iconst F (v := (0 : Int32)) dX10_costsBack_37 (by decide) ?_
  obtain ⟨q6, h⟩ := am_ciE h
  refine am_iast F lyk_183 q6 dX10_costsBack_38 ?_
  refine am_iload F 4 dX10_costsBack_39 rfl ?_
  refine am_iconst F (v := (1 : Int32)) dX10_costsBack_41 (by decide) ?_
  refine am_isub F dX10_costsBack_42 ?_
  refine am_istore F [(5, .int (a4 - (1 : Int32))), (0, .ref (z + 174)), (1, .int a1), (2, .int a2), (3, .int a3), (4, .int a4)] dX10_costsBack_43 (by decide) rfl ?_
  obtain ⟨x38, M39, h40, h⟩ := am_bE h
  refine am_sub (lv' := [(0, .ref (z + 174)), (1, .int a1), (3, .int a3), (4, .int a4), (5, .int (a4 - (1 : Int32)))]) [1, 2, 4, 5, 0] rfl (cl_X10_costsBack_L45 F a1 a3 a4 am_fu (a4 - (1 : Int32)) (am_s M4 183 (((40 : Int32) * a4) + a2).toNatClampNeg (0 : Int32)) x38 M39 h40 ?_)
  exact am_vret F hr h dX10_costsBack_192
/-! AisleSchedulerModel.isBest(IIIII)Z -/
abbrev rm_X10_isBest : Room := { frames := 4, cells := 0, slots := 0, locals := 95 }
theorem yn_X10_isBest : am_yn yX10_isBest 5 := ⟨⟨by decide +kernel, by decide +kernel⟩, by decide +kernel⟩
def g_X10_isBest (a1 : Int32) (a2 : Int32) (a3 : Int32) (a4 : Int32) (a5 : Int32) (M : am_M) : Option (Int32 × am_M) := (am_b (g_X10_takes a3 M) (fun v3 M2 => (if a5 < (a4 + v3) then (some ((0 : Int32), M2)) else (am_b (g_X10_isLegal a1 a2 a3 a4 M2) (fun v6 M5 => (if v6 = (0 : Int32) then (some ((0 : Int32), M5)) else (am_b (g_X10_costs a3 M5) (fun v9 M8 => (am_b (g_X10_takes a3 M8) (fun v12 M11 => (am_b (g_X10_moved a2 a3 M11) (fun v15 M14 => (am_ci (((40 : Int32) * (a4 + v12)) + v15) 1240 (am_ci (((40 : Int32) * a4) + a2) 1240 (if (v9 + (am_g M14 183 (((40 : Int32) * (a4 + v12)) + v15).toNatClampNeg)) = (am_g M14 183 (((40 : Int32) * a4) + a2).toNatClampNeg) then (some ((1 : Int32), M14)) else (some ((0 : Int32), M14)))))))))))))))))
set_option maxHeartbeats 4000000 in
set_option maxRecDepth 100000 in
theorem c_X10_isBest (l : Launch) (D : va_G) (E : Nat → ClassId) (z : Nat) (a1 : Int32) (a2 : Int32) (a3 : Int32) (a4 : Int32) (a5 : Int32) (M : am_M) (r0 : Int32) (M1 : am_M) (h : g_X10_isBest a1 a2 a3 a4 a5 M = some (r0, M1)) : am_Mi l yX10_isBest cX10_isBest 6 (some .boolean) rm_X10_isBest D E z [.ref (z + 174), .int a1, .int a2, .int a3, .int a4, .int a5] M r0 M1 := by
  unfold g_X10_isBest at h
  refine am_of (own := RX10) (by decide +kernel) rfl (by exact Nat.le_of_ble_eq_true rfl) ?_
  intro p e s m args below meth c F hr
  show am_W p l e rm_X10_isBest s m args below meth c _ 6 D E z 0 0 M 0 [(0, .ref (z + 174)), (1, .int a1), (2, .int a2), (3, .int a3), (4, .int a4), (5, .int a5)] []
  refine am_iload F 4 dX10_isBest_0 rfl ?_
  refine am_iload_n F 3 dX10_isBest_2 rfl rfl ?_
  obtain ⟨v3, M2, h1, h⟩ := am_bE h
  refine am_callSi F [.int a3] cw_X10_68 rfl (c_X10_takes l D E z a3 M v3 M2 h1) yn_X10_takes rfl ⟨Nat.le_of_ble_eq_true rfl, Nat.le_of_ble_eq_true rfl⟩ rfl rfl (Nat.le_of_ble_eq_true rfl) ⟨Nat.zero_le _, Nat.zero_le _⟩ dX10_isBest_3 rfl ?_
  refine am_iadd F dX10_isBest_6 ?_
  refine am_iload F 5 dX10_isBest_7 rfl ?_
  refine am_icmp_gt F (tgt := 70) dX10_isBest_9 (by decide) (fun c20 => ?_) (fun c20 => ?_)
  · have h := (if_pos c20).symm.trans h
    refine am_iconst F (v := (0 : Int32)) dX10_isBest_70 (by decide) ?_
    exact am_zret F hr (by decide) h dX10_isBest_71
  · have h := (if_neg c20).symm.trans h
    refine am_aload_n F 0 dX10_isBest_12 rfl rfl ?_
    refine am_iload_n F 1 dX10_isBest_13 rfl rfl ?_
    refine am_iload_n F 2 dX10_isBest_14 rfl rfl ?_
    refine am_iload_n F 3 dX10_isBest_15 rfl rfl ?_
    refine am_iload F 4 dX10_isBest_16 rfl ?_
    obtain ⟨v6, M5, h4, h⟩ := am_bE h
    refine am_callVi F [.int a1, .int a2, .int a3, .int a4] lyk_174 (by decide) rfl cw_X10_97 (c_X10_isLegal l D E z a1 a2 a3 a4 M2 v6 M5 h4) yn_X10_isLegal rfl ⟨Nat.le_of_ble_eq_true rfl, Nat.le_of_ble_eq_true rfl⟩ rfl rfl (Nat.le_of_ble_eq_true rfl) ⟨Nat.zero_le _, Nat.zero_le _⟩ dX10_isBest_18 rfl ?_
    refine am_if_eq F (tgt := 70) dX10_isBest_21 (by decide) (fun c19 => ?_) (fun c19 => ?_)
    · have h := (if_pos c19).symm.trans h
      refine am_iconst F (v := (0 : Int32)) dX10_isBest_70 (by decide) ?_
      exact am_zret F hr (by decide) h dX10_isBest_71
    · have h := (if_neg c19).symm.trans h
      refine am_iload_n F 3 dX10_isBest_24 rfl rfl ?_
      obtain ⟨v9, M8, h7, h⟩ := am_bE h
      refine am_callSi F [.int a3] cw_X10_101 rfl (c_X10_costs l D E z a3 M5 v9 M8 h7) yn_X10_costs rfl ⟨Nat.le_of_ble_eq_true rfl, Nat.le_of_ble_eq_true rfl⟩ rfl rfl (Nat.le_of_ble_eq_true rfl) ⟨Nat.zero_le _, Nat.zero_le _⟩ dX10_isBest_25 rfl ?_
      refine am_aload_n F 0 dX10_isBest_28 rfl rfl ?_
      refine gf_X10_42 F lyk_174 dX10_isBest_29 ?_
      refine am_bipush F (v := (40 : Int32)) dX10_isBest_32 (by decide) ?_
      refine am_iload F 4 dX10_isBest_34 rfl ?_
      refine am_iload_n F 3 dX10_isBest_36 rfl rfl ?_
      obtain ⟨v12, M11, h10, h⟩ := am_bE h
      refine am_callSi F [.int a3] cw_X10_68 rfl (c_X10_takes l D E z a3 M8 v12 M11 h10) yn_X10_takes rfl ⟨Nat.le_of_ble_eq_true rfl, Nat.le_of_ble_eq_true rfl⟩ rfl rfl (Nat.le_of_ble_eq_true rfl) ⟨Nat.zero_le _, Nat.zero_le _⟩ dX10_isBest_37 rfl ?_
      refine am_iadd F dX10_isBest_40 ?_
      refine am_imul F dX10_isBest_41 ?_
      refine am_aload_n F 0 dX10_isBest_42 rfl rfl ?_
      refine am_iload_n F 2 dX10_isBest_43 rfl rfl ?_
      refine am_iload_n F 3 dX10_isBest_44 rfl rfl ?_
      obtain ⟨v15, M14, h13, h⟩ := am_bE h
      refine am_callVi F [.int a2, .int a3] lyk_174 (by decide) rfl cw_X10_72 (c_X10_moved l D E z a2 a3 M11 v15 M14 h13) yn_X10_moved rfl ⟨Nat.le_of_ble_eq_true rfl, Nat.le_of_ble_eq_true rfl⟩ rfl rfl (Nat.le_of_ble_eq_true rfl) ⟨Nat.zero_le _, Nat.zero_le _⟩ dX10_isBest_45 rfl ?_
      refine am_iadd F dX10_isBest_48 ?_
      obtain ⟨q16, h⟩ := am_ciE h
      refine am_iald F lyk_183 q16 dX10_isBest_49 ?_
      refine am_iadd F dX10_isBest_50 ?_
      refine am_aload_n F 0 dX10_isBest_51 rfl rfl ?_
      refine gf_X10_42 F lyk_174 dX10_isBest_52 ?_
      refine am_bipush F (v := (40 : Int32)) dX10_isBest_55 (by decide) ?_
      refine am_iload F 4 dX10_isBest_57 rfl ?_
      refine am_imul F dX10_isBest_59 ?_
      refine am_iload_n F 2 dX10_isBest_60 rfl rfl ?_
      refine am_iadd F dX10_isBest_61 ?_
      obtain ⟨q17, h⟩ := am_ciE h
      refine am_iald F lyk_183 q17 dX10_isBest_62 ?_
      refine am_icmp_ne F (tgt := 70) dX10_isBest_63 (by decide) (fun c18 => ?_) (fun c18 => ?_)
      · have h := (if_neg c18).symm.trans h
        refine am_iconst F (v := (0 : Int32)) dX10_isBest_70 (by decide) ?_
        exact am_zret F hr (by decide) h dX10_isBest_71
      · have h := (if_pos c18).symm.trans h
        refine am_iconst F (v := (1 : Int32)) dX10_isBest_66 (by decide) ?_
        refine am_goto F (tgt := 71) dX10_isBest_67 (by decide) ?_
        exact am_zret F hr (by decide) h dX10_isBest_71
/-! AisleSchedulerModel.routes(IIIIZ)Z -/
abbrev rm_X10_routes : Room := { frames := 6, cells := 0, slots := 0, locals := 144 }
theorem yn_X10_routes : am_yn yX10_routes 5 := ⟨⟨by decide +kernel, by decide +kernel⟩, by decide +kernel⟩
def g_X10_routes_L10 (a1 : Int32) (a2 : Int32) (a3 : Int32) (a4 : Int32) (a5 : Int32) : Nat → Int32 → am_M → Option ((Int32) × am_M)
  | 0, _, _ => none
  | n + 1, a6, M => (if (30 : Int32) < a6 then (some (a6, M)) else (am_ci (((40 : Int32) * a6) + a4) 1240 (if (am_g M 182 (((40 : Int32) * a6) + a4).toNatClampNeg) = (0 : Int32) then (g_X10_routes_L10 a1 a2 a3 a4 a5 n (a6 + (1 : Int32)) M) else (if a5 = (0 : Int32) then (some (a6, M)) else (am_b (g_X10_canWait a1 a4 a6 (30 : Int32) M) (fun v6 M5 => (if v6 = (0 : Int32) then (g_X10_routes_L10 a1 a2 a3 a4 a5 n (a6 + (1 : Int32)) M5) else (some (a6, M5)))))))))
set_option maxHeartbeats 4000000 in
set_option maxRecDepth 100000 in
theorem cl_X10_routes_L10 {l : Launch} {p : Program} {e : Env} {s : State} {m : MethodId} {args : Array Value} {below : List Frame} {meth : Method} {c : Code} {Q : State → Prop} {D : va_G} {E : Nat → ClassId} {z : Nat} (F : am_F p s m args meth c cX10_routes 10 RX10 D E z) (a1 : Int32) (a2 : Int32) (a3 : Int32) (a4 : Int32) (a5 : Int32) : ∀ (n : Nat) (a6 : Int32) (M : am_M) (x : Int32) (M1 : am_M), g_X10_routes_L10 a1 a2 a3 a4 a5 n a6 M = some (x, M1) → (am_W p l e rm_X10_routes s m args below meth c Q 10 D E z 0 0 M1 58 [(0, .ref (z + 174)), (1, .int a1), (2, .int a2), (3, .int a3), (4, .int a4), (6, .int x)] []) → am_W p l e rm_X10_routes s m args below meth c Q 10 D E z 0 0 M 10 [(0, .ref (z + 174)), (1, .int a1), (2, .int a2), (3, .int a3), (4, .int a4), (5, .int a5), (6, .int a6)] [] := by
  intro n
  induction n with
  | zero => intro a6 M x M1 h K; cases h
  | succ n ih =>
    intro a6 M x M1 h K
    rw [g_X10_routes_L10] at h
    refine am_iload F 6 dX10_routes_10 rfl ?_
    refine am_bipush F (v := (30 : Int32)) dX10_routes_12 (by decide) ?_
    refine am_icmp_gt F (tgt := 58) dX10_routes_14 (by decide) (fun c10 => ?_) (fun c10 => ?_)
    · have h := (if_pos c10).symm.trans h
      cases h
      exact am_sub (lv' := [(0, .ref (z + 174)), (1, .int a1), (2, .int a2), (3, .int a3), (4, .int a4), (6, .int a6)]) [0, 1, 2, 3, 4, 6] rfl (K)
    · have h := (if_neg c10).symm.trans h
      refine am_aload_n F 0 dX10_routes_17 rfl rfl ?_
      refine gf_X10_38 F lyk_174 dX10_routes_18 ?_
      refine am_bipush F (v := (40 : Int32)) dX10_routes_21 (by decide) ?_
      refine am_iload F 6 dX10_routes_23 rfl ?_
      refine am_imul F dX10_routes_25 ?_
      refine am_iload F 4 dX10_routes_26 rfl ?_
      refine am_iadd F dX10_routes_28 ?_
      obtain ⟨q3, h⟩ := am_ciE h
      refine am_zald F lyk_182 q3 dX10_routes_29 ?_
      refine am_if_eq F (tgt := 52) dX10_routes_30 (by decide) (fun c9 => ?_) (fun c9 => ?_)
      · have h := (if_pos c9).symm.trans h
        refine am_iinc F [(6, .int (a6 + (1 : Int32))), (0, .ref (z + 174)), (1, .int a1), (2, .int a2), (3, .int a3), (4, .int a4), (5, .int a5)] 6 dX10_routes_52 (by decide) rfl rfl rfl ?_
        refine am_goto F (tgt := 10) dX10_routes_55 (by decide) ?_
        exact am_sub (lv' := [(0, .ref (z + 174)), (1, .int a1), (2, .int a2), (3, .int a3), (4, .int a4), (5, .int a5), (6, .int (a6 + (1 : Int32)))]) [1, 2, 3, 4, 5, 6, 0] rfl (ih (a6 + (1 : Int32)) M _ _ h K)
      · have h := (if_neg c9).symm.trans h
        refine am_iload F 5 dX10_routes_33 rfl ?_
        refine am_if_eq F (tgt := 58) dX10_routes_35 (by decide) (fun c8 => ?_) (fun c8 => ?_)
        · have h := (if_pos c8).symm.trans h
          cases h
          exact am_sub (lv' := [(0, .ref (z + 174)), (1, .int a1), (2, .int a2), (3, .int a3), (4, .int a4), (6, .int a6)]) [0, 1, 2, 3, 4, 6] rfl (K)
        · have h := (if_neg c8).symm.trans h
          refine am_aload_n F 0 dX10_routes_38 rfl rfl ?_
          refine am_iload_n F 1 dX10_routes_39 rfl rfl ?_
          refine am_iload F 4 dX10_routes_40 rfl ?_
          refine am_iload F 6 dX10_routes_42 rfl ?_
          refine am_bipush F (v := (30 : Int32)) dX10_routes_44 (by decide) ?_
          obtain ⟨v6, M5, h4, h⟩ := am_bE h
          refine am_callVi F [.int a1, .int a4, .int a6, .int (30 : Int32)] lyk_174 (by decide) rfl cw_X10_112 (c_X10_canWait l D E z a1 a4 a6 (30 : Int32) M v6 M5 h4) yn_X10_canWait rfl ⟨Nat.le_of_ble_eq_true rfl, Nat.le_of_ble_eq_true rfl⟩ rfl rfl (Nat.le_of_ble_eq_true rfl) ⟨Nat.zero_le _, Nat.zero_le _⟩ dX10_routes_46 rfl ?_
          refine am_if_ne F (tgt := 58) dX10_routes_49 (by decide) (fun c7 => ?_) (fun c7 => ?_)
          · have h := (if_neg c7).symm.trans h
            cases h
            exact am_sub (lv' := [(0, .ref (z + 174)), (1, .int a1), (2, .int a2), (3, .int a3), (4, .int a4), (6, .int a6)]) [0, 1, 2, 3, 4, 6] rfl (K)
          · have h := (if_pos c7).symm.trans h
            refine am_iinc F [(6, .int (a6 + (1 : Int32))), (0, .ref (z + 174)), (1, .int a1), (2, .int a2), (3, .int a3), (4, .int a4), (5, .int a5)] 6 dX10_routes_52 (by decide) rfl rfl rfl ?_
            refine am_goto F (tgt := 10) dX10_routes_55 (by decide) ?_
            exact am_sub (lv' := [(0, .ref (z + 174)), (1, .int a1), (2, .int a2), (3, .int a3), (4, .int a4), (5, .int a5), (6, .int (a6 + (1 : Int32)))]) [1, 2, 3, 4, 5, 6, 0] rfl (ih (a6 + (1 : Int32)) M5 _ _ h K)
def g_X10_routes_L113 (a1 : Int32) (a6 : Int32) (a7 : Int32) (a8 : Int32) : Nat → Int32 → am_M → Option ((Int32) × am_M)
  | 0, _, _ => none
  | n + 1, a9, M => (am_b (g_X10_isBest a1 a8 a9 a7 a6 M) (fun v19 M18 => (if v19 = (0 : Int32) then (g_X10_routes_L113 a1 a6 a7 a8 n (a9 + (1 : Int32)) M18) else (some (a9, M18)))))
set_option maxHeartbeats 4000000 in
set_option maxRecDepth 100000 in
theorem cl_X10_routes_L113 {l : Launch} {p : Program} {e : Env} {s : State} {m : MethodId} {args : Array Value} {below : List Frame} {meth : Method} {c : Code} {Q : State → Prop} {D : va_G} {E : Nat → ClassId} {z : Nat} (F : am_F p s m args meth c cX10_routes 10 RX10 D E z) (a1 : Int32) (a6 : Int32) (a7 : Int32) (a8 : Int32) : ∀ (n : Nat) (a9 : Int32) (M : am_M) (x : Int32) (M1 : am_M), g_X10_routes_L113 a1 a6 a7 a8 n a9 M = some (x, M1) → (am_W p l e rm_X10_routes s m args below meth c Q 10 D E z 0 0 M1 135 [(0, .ref (z + 174)), (1, .int a1), (6, .int a6), (7, .int a7), (8, .int a8), (9, .int x)] []) → am_W p l e rm_X10_routes s m args below meth c Q 10 D E z 0 0 M 113 [(0, .ref (z + 174)), (1, .int a1), (6, .int a6), (7, .int a7), (8, .int a8), (9, .int a9)] [] := by
  intro n
  induction n with
  | zero => intro a9 M x M1 h K; cases h
  | succ n ih =>
    intro a9 M x M1 h K
    rw [g_X10_routes_L113] at h
    refine am_aload_n F 0 dX10_routes_113 rfl rfl ?_
    refine am_iload_n F 1 dX10_routes_114 rfl rfl ?_
    refine am_iload F 4 dX10_routes_115 rfl ?_
    refine am_iload F 5 dX10_routes_117 rfl ?_
    refine am_iload F 3 dX10_routes_119 rfl ?_
    refine am_iload F 2 dX10_routes_121 rfl ?_
    obtain ⟨v19, M18, h17, h⟩ := am_bE h
    refine am_callVi F [.int a1, .int a8, .int a9, .int a7, .int a6] lyk_174 (by decide) rfl cw_X10_122 (c_X10_isBest l D E z a1 a8 a9 a7 a6 M v19 M18 h17) yn_X10_isBest rfl ⟨Nat.le_of_ble_eq_true rfl, Nat.le_of_ble_eq_true rfl⟩ rfl rfl (Nat.le_of_ble_eq_true rfl) ⟨Nat.zero_le _, Nat.zero_le _⟩ dX10_routes_123 rfl ?_
    refine am_if_ne F (tgt := 135) dX10_routes_126 (by decide) (fun c20 => ?_) (fun c20 => ?_)
    · have h := (if_neg c20).symm.trans h
      cases h
      exact am_sub (lv' := [(0, .ref (z + 174)), (1, .int a1), (6, .int a6), (7, .int a7), (8, .int a8), (9, .int a9)]) [0, 1, 2, 3, 4, 5] rfl (K)
    · have h := (if_pos c20).symm.trans h
      refine am_iinc F [(9, .int (a9 + (1 : Int32))), (0, .ref (z + 174)), (1, .int a1), (6, .int a6), (7, .int a7), (8, .int a8)] 5 dX10_routes_129 (by decide) rfl rfl rfl ?_
      refine am_goto F (tgt := 113) dX10_routes_132 (by decide) ?_
      exact am_sub (lv' := [(0, .ref (z + 174)), (1, .int a1), (6, .int a6), (7, .int a7), (8, .int a8), (9, .int (a9 + (1 : Int32)))]) [1, 2, 3, 4, 5, 0] rfl (ih (a9 + (1 : Int32)) M18 _ _ h K)
def g_X10_routes_L103 (a1 : Int32) (a6 : Int32) : Nat → Int32 → Int32 → am_M → Option ((Unit) × am_M)
  | 0, _, _, _ => none
  | n + 1, a7, a8, M => (if a6 ≤ a7 then (some ((), M)) else (am_b (g_X10_routes_L113 a1 a6 a7 a8 am_fu (0 : Int32) M) (fun x21 M22 => (am_ci (am_g M22 174 15) 64 (am_b (g_X10_moved a8 x21 (am_s (am_s M22 184 (am_g M22 174 15).toNatClampNeg x21) 174 15 ((am_g (am_s M22 184 (am_g M22 174 15).toNatClampNeg x21) 174 15) + (1 : Int32)))) (fun v27 M26 => (am_b (g_X10_takes x21 M26) (fun v30 M29 => (g_X10_routes_L103 a1 a6 n (a7 + v30) v27 M29)))))))))
set_option maxHeartbeats 4000000 in
set_option maxRecDepth 100000 in
theorem cl_X10_routes_L103 {l : Launch} {p : Program} {e : Env} {s : State} {m : MethodId} {args : Array Value} {below : List Frame} {meth : Method} {c : Code} {Q : State → Prop} {D : va_G} {E : Nat → ClassId} {z : Nat} (F : am_F p s m args meth c cX10_routes 10 RX10 D E z) (a1 : Int32) (a6 : Int32) : ∀ (n : Nat) (a7 : Int32) (a8 : Int32) (M : am_M) (x : Unit) (M1 : am_M), g_X10_routes_L103 a1 a6 n a7 a8 M = some (x, M1) → (am_W p l e rm_X10_routes s m args below meth c Q 10 D E z 0 0 M1 179 [(0, .ref (z + 174)), (6, .int a6)] []) → am_W p l e rm_X10_routes s m args below meth c Q 10 D E z 0 0 M 103 [(0, .ref (z + 174)), (1, .int a1), (6, .int a6), (7, .int a7), (8, .int a8)] [] := by
  intro n
  induction n with
  | zero => intro a7 a8 M x M1 h K; cases h
  | succ n ih =>
    intro a7 a8 M x M1 h K
    rw [g_X10_routes_L103] at h
    refine am_iload F 3 dX10_routes_103 rfl ?_
    refine am_iload F 2 dX10_routes_105 rfl ?_
    refine am_icmp_ge F (tgt := 179) dX10_routes_107 (by decide) (fun c31 => ?_) (fun c31 => ?_)
    · have h := (if_pos c31).symm.trans h
      cases h
      exact am_sub (lv' := [(0, .ref (z + 174)), (6, .int a6)]) [0, 2] rfl (K)
    · have h := (if_neg c31).symm.trans h
      refine am_iconst F (v := (0 : Int32)) dX10_routes_110 (by decide) ?_
      refine am_istore F [(9, .int (0 : Int32)), (0, .ref (z + 174)), (1, .int a1), (6, .int a6), (7, .int a7), (8, .int a8)] dX10_routes_111 (by decide) rfl ?_
      obtain ⟨x21, M22, h23, h⟩ := am_bE h
      refine am_sub (lv' := [(0, .ref (z + 174)), (1, .int a1), (6, .int a6), (7, .int a7), (8, .int a8), (9, .int (0 : Int32))]) [1, 2, 3, 4, 5, 0] rfl (cl_X10_routes_L113 F a1 a6 a7 a8 am_fu (0 : Int32) M x21 M22 h23 ?_)
      refine am_aload_n F 0 dX10_routes_135 rfl rfl ?_
      refine gf_X10_45 F lyk_174 dX10_routes_136 ?_
      refine am_aload_n F 0 dX10_routes_139 rfl rfl ?_
      refine gf_X10_126 F lyk_174 dX10_routes_140 ?_
      refine am_iload F 5 dX10_routes_143 rfl ?_
      obtain ⟨q24, h⟩ := am_ciE h
      refine am_iast F lyk_184 q24 dX10_routes_145 ?_
      refine am_aload_n F 0 dX10_routes_146 rfl rfl ?_
      refine am_dup F dX10_routes_147 rfl ?_
      refine gf_X10_126 F lyk_174 dX10_routes_148 ?_
      refine am_iconst F (v := (1 : Int32)) dX10_routes_151 (by decide) ?_
      refine am_iadd F dX10_routes_152 ?_
      refine pf_X10_126 F lyk_174 dX10_routes_153 ?_
      refine am_aload_n F 0 dX10_routes_156 rfl rfl ?_
      refine am_iload F 4 dX10_routes_157 rfl ?_
      refine am_iload F 5 dX10_routes_159 rfl ?_
      obtain ⟨v27, M26, h25, h⟩ := am_bE h
      refine am_callVi F [.int a8, .int x21] lyk_174 (by decide) rfl cw_X10_72 (c_X10_moved l D E z a8 x21 (am_s (am_s M22 184 (am_g M22 174 15).toNatClampNeg x21) 174 15 ((am_g (am_s M22 184 (am_g M22 174 15).toNatClampNeg x21) 174 15) + (1 : Int32))) v27 M26 h25) yn_X10_moved rfl ⟨Nat.le_of_ble_eq_true rfl, Nat.le_of_ble_eq_true rfl⟩ rfl rfl (Nat.le_of_ble_eq_true rfl) ⟨Nat.zero_le _, Nat.zero_le _⟩ dX10_routes_161 rfl ?_
      refine am_istore F [(8, .int v27), (0, .ref (z + 174)), (1, .int a1), (6, .int a6), (7, .int a7), (9, .int x21)] dX10_routes_164 (by decide) rfl ?_
      refine am_iload F 4 dX10_routes_166 rfl ?_
      refine am_iload F 5 dX10_routes_168 rfl ?_
      obtain ⟨v30, M29, h28, h⟩ := am_bE h
      refine am_callSi F [.int x21] cw_X10_68 rfl (c_X10_takes l D E z x21 M26 v30 M29 h28) yn_X10_takes rfl ⟨Nat.le_of_ble_eq_true rfl, Nat.le_of_ble_eq_true rfl⟩ rfl rfl (Nat.le_of_ble_eq_true rfl) ⟨Nat.zero_le _, Nat.zero_le _⟩ dX10_routes_170 rfl ?_
      refine am_iadd F dX10_routes_173 ?_
      refine am_istore F [(7, .int (a7 + v30)), (8, .int v27), (0, .ref (z + 174)), (1, .int a1), (6, .int a6), (9, .int x21)] dX10_routes_174 (by decide) rfl ?_
      refine am_goto F (tgt := 103) dX10_routes_176 (by decide) ?_
      exact am_sub (lv' := [(0, .ref (z + 174)), (1, .int a1), (6, .int a6), (7, .int (a7 + v30)), (8, .int v27)]) [2, 3, 4, 0, 1] rfl (ih (a7 + v30) v27 M29 _ _ h K)
def g_X10_routes_J58 (a1 : Int32) (a2 : Int32) (a3 : Int32) (a4 : Int32) (a6 : Int32) (M : am_M) : Option (Int32 × am_M) := (if a6 ≤ (30 : Int32) then (am_b (g_X10_costsBack a1 a4 a3 a6 M) (fun _ M15 => (am_ci (((40 : Int32) * a3) + a2) 1240 (am_b (g_X10_routes_L103 a1 a6 am_fu a3 a2 (am_s M15 174 17 ((am_g M15 174 17) + (am_g M15 183 (((40 : Int32) * a3) + a2).toNatClampNeg)))) (fun x32 M33 => (some ((1 : Int32), (am_s M33 174 16 a6)))))))) else (some ((0 : Int32), M)))
set_option maxHeartbeats 4000000 in
set_option maxRecDepth 100000 in
theorem cj_X10_routes_J58 {l : Launch} {p : Program} {e : Env} {s : State} {m : MethodId} {args : Array Value} {below : List Frame} {meth : Method} {c : Code} {D : va_G} {E : Nat → ClassId} {z : Nat} (F : am_F p s m args meth c cX10_routes 10 RX10 D E z) (hr : meth.sig.returnType = (some .boolean)) (a1 : Int32) (a2 : Int32) (a3 : Int32) (a4 : Int32) (a6 : Int32) (M : am_M) (r0 : Int32) (M1 : am_M) (h : g_X10_routes_J58 a1 a2 a3 a4 a6 M = some (r0, M1)) : am_W p l e rm_X10_routes s m args below meth c (MQ below (va_Qi (fun (r9 : Int32) (u : am_M) => r9 = r0 ∧ u = M1) (am_BQ z E D) (fun q => z ≤ q)) args s 0 0 (fun q => z ≤ q)) 10 D E z 0 0 M 58 [(0, .ref (z + 174)), (1, .int a1), (2, .int a2), (3, .int a3), (4, .int a4), (6, .int a6)] [] := by
  unfold g_X10_routes_J58 at h
  refine am_iload F 5 dX10_routes_58 rfl ?_
  refine am_bipush F (v := (30 : Int32)) dX10_routes_60 (by decide) ?_
  refine am_icmp_le F (tgt := 67) dX10_routes_62 (by decide) (fun c35 => ?_) (fun c35 => ?_)
  · have h := (if_pos c35).symm.trans h
    refine am_aload_n F 0 dX10_routes_67 rfl rfl ?_
    refine am_iload_n F 1 dX10_routes_68 rfl rfl ?_
    refine am_iload F 4 dX10_routes_69 rfl ?_
    refine am_iload_n F 3 dX10_routes_71 rfl rfl ?_
    refine am_iload F 5 dX10_routes_72 rfl ?_
    obtain ⟨_, M15, h14, h⟩ := am_bE h
    refine am_callVv F [.int a1, .int a4, .int a3, .int a6] lyk_174 (by decide) rfl cw_X10_115 (c_X10_costsBack l D E z a1 a4 a3 a6 M M15 h14) yn_X10_costsBack rfl ⟨Nat.le_of_ble_eq_true rfl, Nat.le_of_ble_eq_true rfl⟩ rfl rfl (Nat.le_of_ble_eq_true rfl) ⟨Nat.zero_le _, Nat.zero_le _⟩ dX10_routes_74 rfl ?_
    refine am_aload_n F 0 dX10_routes_77 rfl rfl ?_
    refine am_dup F dX10_routes_78 rfl ?_
    refine gf_X10_119 F lyk_174 dX10_routes_79 ?_
    refine am_aload_n F 0 dX10_routes_82 rfl rfl ?_
    refine gf_X10_42 F lyk_174 dX10_routes_83 ?_
    refine am_bipush F (v := (40 : Int32)) dX10_routes_86 (by decide) ?_
    refine am_iload_n F 3 dX10_routes_88 rfl rfl ?_
    refine am_imul F dX10_routes_89 ?_
    refine am_iload_n F 2 dX10_routes_90 rfl rfl ?_
    refine am_iadd F dX10_routes_91 ?_
    obtain ⟨q16, h⟩ := am_ciE h
    refine am_iald F lyk_183 q16 dX10_routes_92 ?_
    refine am_iadd F dX10_routes_93 ?_
    refine pf_X10_119 F lyk_174 dX10_routes_94 ?_
    refine am_iload_n F 3 dX10_routes_97 rfl rfl ?_
    refine am_istore F [(7, .int a3), (0, .ref (z + 174)), (1, .int a1), (2, .int a2), (3, .int a3), (4, .int a4), (6, .int a6)] dX10_routes_98 (by decide) rfl ?_
    refine am_iload_n F 3 dX10_routes_100 rfl rfl ?_
    refine am_istore F [(8, .int a2), (7, .int a3), (0, .ref (z + 174)), (1, .int a1), (2, .int a2), (3, .int a3), (4, .int a4), (6, .int a6)] dX10_routes_101 (by decide) rfl ?_
    obtain ⟨x32, M33, h34, h⟩ := am_bE h
    refine am_sub (lv' := [(0, .ref (z + 174)), (1, .int a1), (6, .int a6), (7, .int a3), (8, .int a2)]) [2, 3, 7, 1, 0] rfl (cl_X10_routes_L103 F a1 a6 am_fu a3 a2 (am_s M15 174 17 ((am_g M15 174 17) + (am_g M15 183 (((40 : Int32) * a3) + a2).toNatClampNeg))) x32 M33 h34 ?_)
    refine am_aload_n F 0 dX10_routes_179 rfl rfl ?_
    refine am_iload F 1 dX10_routes_180 rfl ?_
    refine pf_X10_129 F lyk_174 dX10_routes_182 ?_
    refine am_iconst F (v := (1 : Int32)) dX10_routes_185 (by decide) ?_
    exact am_zret F hr (by decide) h dX10_routes_186
  · have h := (if_neg c35).symm.trans h
    refine am_iconst F (v := (0 : Int32)) dX10_routes_65 (by decide) ?_
    exact am_zret F hr (by decide) h dX10_routes_66
def g_X10_routes (a1 : Int32) (a2 : Int32) (a3 : Int32) (a4 : Int32) (a5 : Int32) (M : am_M) : Option (Int32 × am_M) := (am_b (g_X10_reaches a1 a2 a3 M) (fun _ M2 => (am_b (g_X10_routes_L10 a1 a2 a3 a4 a5 am_fu a3 M2) (fun x11 M12 => (g_X10_routes_J58 a1 a2 a3 a4 x11 M12)))))
set_option maxHeartbeats 4000000 in
set_option maxRecDepth 100000 in
theorem c_X10_routes (l : Launch) (D : va_G) (E : Nat → ClassId) (z : Nat) (a1 : Int32) (a2 : Int32) (a3 : Int32) (a4 : Int32) (a5 : Int32) (M : am_M) (r0 : Int32) (M1 : am_M) (h : g_X10_routes a1 a2 a3 a4 a5 M = some (r0, M1)) : am_Mi l yX10_routes cX10_routes 10 (some .boolean) rm_X10_routes D E z [.ref (z + 174), .int a1, .int a2, .int a3, .int a4, .int a5] M r0 M1 := by
  unfold g_X10_routes at h
  refine am_of (own := RX10) (by decide +kernel) rfl (by exact Nat.le_of_ble_eq_true rfl) ?_
  intro p e s m args below meth c F hr
  show am_W p l e rm_X10_routes s m args below meth c _ 10 D E z 0 0 M 0 [(0, .ref (z + 174)), (1, .int a1), (2, .int a2), (3, .int a3), (4, .int a4), (5, .int a5)] []
  refine am_aload_n F 0 dX10_routes_0 rfl rfl ?_
  refine am_iload_n F 1 dX10_routes_1 rfl rfl ?_
  refine am_iload_n F 2 dX10_routes_2 rfl rfl ?_
  refine am_iload_n F 3 dX10_routes_3 rfl rfl ?_
  obtain ⟨_, M2, h1, h⟩ := am_bE h
  refine am_callVv F [.int a1, .int a2, .int a3] lyk_174 (by decide) rfl cw_X10_109 (c_X10_reaches l D E z a1 a2 a3 M M2 h1) yn_X10_reaches rfl ⟨Nat.le_of_ble_eq_true rfl, Nat.le_of_ble_eq_true rfl⟩ rfl rfl (Nat.le_of_ble_eq_true rfl) ⟨Nat.zero_le _, Nat.zero_le _⟩ dX10_routes_4 rfl ?_
  refine am_iload_n F 3 dX10_routes_7 rfl rfl ?_
  refine am_istore F [(6, .int a3), (0, .ref (z + 174)), (1, .int a1), (2, .int a2), (3, .int a3), (4, .int a4), (5, .int a5)] dX10_routes_8 (by decide) rfl ?_
  obtain ⟨x11, M12, h13, h⟩ := am_bE h
  refine am_sub (lv' := [(0, .ref (z + 174)), (1, .int a1), (2, .int a2), (3, .int a3), (4, .int a4), (5, .int a5), (6, .int a3)]) [1, 2, 3, 4, 5, 6, 0] rfl (cl_X10_routes_L10 F a1 a2 a3 a4 a5 am_fu a3 M2 x11 M12 h13 ?_)
  exact am_sub (lv' := [(0, .ref (z + 174)), (1, .int a1), (2, .int a2), (3, .int a3), (4, .int a4), (6, .int x11)]) [0, 1, 2, 3, 4, 5] rfl (cj_X10_routes_J58 F hr a1 a2 a3 a4 x11 M12 r0 M1 h)
/-! AisleSchedulerModel.begins()V -/
abbrev rm_X10_begins : Room := { frames := 1, cells := 0, slots := 0, locals := 24 }
theorem yn_X10_begins : am_yn yX10_begins 0 := ⟨⟨by decide +kernel, by decide +kernel⟩, by decide +kernel⟩
def g_X10_begins  (M : am_M) : Option (Unit × am_M) := (some ((), (am_s (am_s (am_s M 174 15 (0 : Int32)) 174 16 (0 : Int32)) 174 17 (0 : Int32))))
set_option maxHeartbeats 4000000 in
set_option maxRecDepth 100000 in
theorem c_X10_begins (l : Launch) (D : va_G) (E : Nat → ClassId) (z : Nat)  (M : am_M)  (M1 : am_M) (h : g_X10_begins  M = some ((), M1)) : am_Mv l yX10_begins cX10_begins 1 none rm_X10_begins D E z [.ref (z + 174)] M M1 := by
  unfold g_X10_begins at h
  refine am_of (own := RX10) (by decide +kernel) rfl (by exact Nat.le_of_ble_eq_true rfl) ?_
  intro p e s m args below meth c F hr
  show am_W p l e rm_X10_begins s m args below meth c _ 1 D E z 0 0 M 0 [(0, .ref (z + 174))] []
  refine am_aload_n F 0 dX10_begins_0 rfl rfl ?_
  refine am_iconst F (v := (0 : Int32)) dX10_begins_1 (by decide) ?_
  refine pf_X10_126 F lyk_174 dX10_begins_2 ?_
  refine am_aload_n F 0 dX10_begins_5 rfl rfl ?_
  refine am_iconst F (v := (0 : Int32)) dX10_begins_6 (by decide) ?_
  refine pf_X10_129 F lyk_174 dX10_begins_7 ?_
  refine am_aload_n F 0 dX10_begins_10 rfl rfl ?_
  refine am_iconst F (v := (0 : Int32)) dX10_begins_11 (by decide) ?_
  refine pf_X10_119 F lyk_174 dX10_begins_12 ?_
  exact am_vret F hr h dX10_begins_15
/-! AisleSchedulerModel.hasRoute(II)Z -/
abbrev rm_X10_hasRoute : Room := { frames := 7, cells := 0, slots := 0, locals := 173 }
theorem yn_X10_hasRoute : am_yn yX10_hasRoute 2 := ⟨⟨by decide +kernel, by decide +kernel⟩, by decide +kernel⟩
def g_X10_hasRoute (a1 : Int32) (a2 : Int32) (M : am_M) : Option (Int32 × am_M) := (am_b (g_X10_allForeseen  M) (fun _ M2 => (am_b (g_X10_begins  M2) (fun _ M4 => (am_b (g_X10_of a1 (0 : Int32) M4) (fun v7 M6 => (am_b (g_X10_routes a1 v7 (0 : Int32) a2 (1 : Int32) M6) (fun v10 M9 => (am_c (v10 = 0 ∨ v10 = 1) (some (v10, M9)))))))))))
set_option maxHeartbeats 4000000 in
set_option maxRecDepth 100000 in
theorem c_X10_hasRoute (l : Launch) (D : va_G) (E : Nat → ClassId) (z : Nat) (a1 : Int32) (a2 : Int32) (M : am_M) (r0 : Int32) (M1 : am_M) (h : g_X10_hasRoute a1 a2 M = some (r0, M1)) : am_Mi l yX10_hasRoute cX10_hasRoute 3 (some .boolean) rm_X10_hasRoute D E z [.ref (z + 174), .int a1, .int a2] M r0 M1 := by
  unfold g_X10_hasRoute at h
  refine am_of (own := RX10) (by decide +kernel) rfl (by exact Nat.le_of_ble_eq_true rfl) ?_
  intro p e s m args below meth c F hr
  show am_W p l e rm_X10_hasRoute s m args below meth c _ 3 D E z 0 0 M 0 [(0, .ref (z + 174)), (1, .int a1), (2, .int a2)] []
  refine am_aload_n F 0 dX10_hasRoute_0 rfl rfl ?_
  obtain ⟨_, M2, h1, h⟩ := am_bE h
  refine am_callVv F [] lyk_174 (by decide) rfl cw_X10_132 (c_X10_allForeseen l D E z  M M2 h1) yn_X10_allForeseen rfl ⟨Nat.le_of_ble_eq_true rfl, Nat.le_of_ble_eq_true rfl⟩ rfl rfl (Nat.le_of_ble_eq_true rfl) ⟨Nat.zero_le _, Nat.zero_le _⟩ dX10_hasRoute_1 rfl ?_
  refine am_aload_n F 0 dX10_hasRoute_4 rfl rfl ?_
  obtain ⟨_, M4, h3, h⟩ := am_bE h
  refine am_callVv F [] lyk_174 (by decide) rfl cw_X10_135 (c_X10_begins l D E z  M2 M4 h3) yn_X10_begins rfl ⟨Nat.le_of_ble_eq_true rfl, Nat.le_of_ble_eq_true rfl⟩ rfl rfl (Nat.le_of_ble_eq_true rfl) ⟨Nat.zero_le _, Nat.zero_le _⟩ dX10_hasRoute_5 rfl ?_
  refine am_aload_n F 0 dX10_hasRoute_8 rfl rfl ?_
  refine am_iload_n F 1 dX10_hasRoute_9 rfl rfl ?_
  refine am_aload_n F 0 dX10_hasRoute_10 rfl rfl ?_
  refine am_iload_n F 1 dX10_hasRoute_11 rfl rfl ?_
  refine am_iconst F (v := (0 : Int32)) dX10_hasRoute_12 (by decide) ?_
  obtain ⟨v7, M6, h5, h⟩ := am_bE h
  refine am_callVi F [.int a1, .int (0 : Int32)] lyk_174 (by decide) rfl cw_X10_58 (c_X10_of l D E z a1 (0 : Int32) M4 v7 M6 h5) yn_X10_of rfl ⟨Nat.le_of_ble_eq_true rfl, Nat.le_of_ble_eq_true rfl⟩ rfl rfl (Nat.le_of_ble_eq_true rfl) ⟨Nat.zero_le _, Nat.zero_le _⟩ dX10_hasRoute_13 rfl ?_
  refine am_iconst F (v := (0 : Int32)) dX10_hasRoute_16 (by decide) ?_
  refine am_iload_n F 2 dX10_hasRoute_17 rfl rfl ?_
  refine am_iconst F (v := (1 : Int32)) dX10_hasRoute_18 (by decide) ?_
  obtain ⟨v10, M9, h8, h⟩ := am_bE h
  refine am_callVi F [.int a1, .int v7, .int (0 : Int32), .int a2, .int (1 : Int32)] lyk_174 (by decide) rfl cw_X10_138 (c_X10_routes l D E z a1 v7 (0 : Int32) a2 (1 : Int32) M6 v10 M9 h8) yn_X10_routes rfl ⟨Nat.le_of_ble_eq_true rfl, Nat.le_of_ble_eq_true rfl⟩ rfl rfl (Nat.le_of_ble_eq_true rfl) ⟨Nat.zero_le _, Nat.zero_le _⟩ dX10_hasRoute_19 rfl ?_
  obtain ⟨q11, h⟩ := am_cE h
  exact am_zret F hr q11 h dX10_hasRoute_22
/-! AisleSchedulerModel.reopens(I)V -/
abbrev rm_X10_reopens : Room := { frames := 2, cells := 0, slots := 0, locals := 47 }
theorem yn_X10_reopens : am_yn yX10_reopens 1 := ⟨⟨by decide +kernel, by decide +kernel⟩, by decide +kernel⟩
def g_X10_reopens (a1 : Int32) (M : am_M) : Option (Unit × am_M) := (am_b (g_X10_of a1 (4 : Int32) M) (fun v3 M2 => (if v3 = (-1 : Int32) then (some ((), M2)) else (am_b (g_X10_set v3 (4 : Int32) (0 : Int32) M2) (fun _ M5 => (am_b (g_X10_set v3 (6 : Int32) (-1 : Int32) M5) (fun _ M7 => (am_b (g_X10_put a1 (4 : Int32) (-1 : Int32) M7) (fun _ M9 => (some ((), M9)))))))))))
set_option maxHeartbeats 4000000 in
set_option maxRecDepth 100000 in
theorem c_X10_reopens (l : Launch) (D : va_G) (E : Nat → ClassId) (z : Nat) (a1 : Int32) (M : am_M)  (M1 : am_M) (h : g_X10_reopens a1 M = some ((), M1)) : am_Mv l yX10_reopens cX10_reopens 3 none rm_X10_reopens D E z [.ref (z + 174), .int a1] M M1 := by
  unfold g_X10_reopens at h
  refine am_of (own := RX10) (by decide +kernel) rfl (by exact Nat.le_of_ble_eq_true rfl) ?_
  intro p e s m args below meth c F hr
  show am_W p l e rm_X10_reopens s m args below meth c _ 3 D E z 0 0 M 0 [(0, .ref (z + 174)), (1, .int a1)] []
  refine am_aload_n F 0 dX10_reopens_0 rfl rfl ?_
  refine am_iload_n F 1 dX10_reopens_1 rfl rfl ?_
  refine am_iconst F (v := (4 : Int32)) dX10_reopens_2 (by decide) ?_
  obtain ⟨v3, M2, h1, h⟩ := am_bE h
  refine am_callVi F [.int a1, .int (4 : Int32)] lyk_174 (by decide) rfl cw_X10_58 (c_X10_of l D E z a1 (4 : Int32) M v3 M2 h1) yn_X10_of rfl ⟨Nat.le_of_ble_eq_true rfl, Nat.le_of_ble_eq_true rfl⟩ rfl rfl (Nat.le_of_ble_eq_true rfl) ⟨Nat.zero_le _, Nat.zero_le _⟩ dX10_reopens_3 rfl ?_
  refine am_istore_n F [(2, .int v3), (0, .ref (z + 174)), (1, .int a1)] dX10_reopens_6 rfl (by decide) rfl ?_
  refine am_iload_n F 0 dX10_reopens_7 rfl rfl ?_
  refine am_iconst F (v := (-1 : Int32)) dX10_reopens_8 (by decide) ?_
  refine am_icmp_ne F (tgt := 13) dX10_reopens_9 (by decide) (fun c10 => ?_) (fun c10 => ?_)
  · have h := (if_neg c10).symm.trans h
    refine am_aload_n F 1 dX10_reopens_13 rfl rfl ?_
    refine am_iload_n F 0 dX10_reopens_14 rfl rfl ?_
    refine am_iconst F (v := (4 : Int32)) dX10_reopens_15 (by decide) ?_
    refine am_iconst F (v := (0 : Int32)) dX10_reopens_16 (by decide) ?_
    obtain ⟨_, M5, h4, h⟩ := am_bE h
    refine am_callVv F [.int v3, .int (4 : Int32), .int (0 : Int32)] lyk_174 (by decide) rfl cw_X10_142 (c_X10_set l D E z v3 (4 : Int32) (0 : Int32) M2 M5 h4) yn_X10_set rfl ⟨Nat.le_of_ble_eq_true rfl, Nat.le_of_ble_eq_true rfl⟩ rfl rfl (Nat.le_of_ble_eq_true rfl) ⟨Nat.zero_le _, Nat.zero_le _⟩ dX10_reopens_17 rfl ?_
    refine am_aload_n F 1 dX10_reopens_20 rfl rfl ?_
    refine am_iload_n F 0 dX10_reopens_21 rfl rfl ?_
    refine am_bipush F (v := (6 : Int32)) dX10_reopens_22 (by decide) ?_
    refine am_iconst F (v := (-1 : Int32)) dX10_reopens_24 (by decide) ?_
    obtain ⟨_, M7, h6, h⟩ := am_bE h
    refine am_callVv F [.int v3, .int (6 : Int32), .int (-1 : Int32)] lyk_174 (by decide) rfl cw_X10_142 (c_X10_set l D E z v3 (6 : Int32) (-1 : Int32) M5 M7 h6) yn_X10_set rfl ⟨Nat.le_of_ble_eq_true rfl, Nat.le_of_ble_eq_true rfl⟩ rfl rfl (Nat.le_of_ble_eq_true rfl) ⟨Nat.zero_le _, Nat.zero_le _⟩ dX10_reopens_25 rfl ?_
    refine am_aload_n F 1 dX10_reopens_28 rfl rfl ?_
    refine am_iload_n F 2 dX10_reopens_29 rfl rfl ?_
    refine am_iconst F (v := (4 : Int32)) dX10_reopens_30 (by decide) ?_
    refine am_iconst F (v := (-1 : Int32)) dX10_reopens_31 (by decide) ?_
    obtain ⟨_, M9, h8, h⟩ := am_bE h
    refine am_callVv F [.int a1, .int (4 : Int32), .int (-1 : Int32)] lyk_174 (by decide) rfl cw_X10_145 (c_X10_put l D E z a1 (4 : Int32) (-1 : Int32) M7 M9 h8) yn_X10_put rfl ⟨Nat.le_of_ble_eq_true rfl, Nat.le_of_ble_eq_true rfl⟩ rfl rfl (Nat.le_of_ble_eq_true rfl) ⟨Nat.zero_le _, Nat.zero_le _⟩ dX10_reopens_32 rfl ?_
    exact am_vret F hr h dX10_reopens_35
  · have h := (if_pos c10).symm.trans h
    exact am_vret F hr h dX10_reopens_12
/-! AisleSchedulerModel.follows(I)V -/
abbrev rm_X10_follows : Room := { frames := 3, cells := 0, slots := 0, locals := 69 }
theorem yn_X10_follows : am_yn yX10_follows 1 := ⟨⟨by decide +kernel, by decide +kernel⟩, by decide +kernel⟩
def g_X10_follows_L17 (a1 : Int32) : Nat → Int32 → am_M → Option ((Unit) × am_M)
  | 0, _, _ => none
  | n + 1, a2, M => (if (am_g M 174 15) ≤ a2 then (some ((), M)) else (am_ci a2 64 (am_b (g_X10_put a1 ((11 : Int32) + a2) (am_g M 184 a2.toNatClampNeg) M) (fun _ M7 => (g_X10_follows_L17 a1 n (a2 + (1 : Int32)) M7)))))
set_option maxHeartbeats 4000000 in
set_option maxRecDepth 100000 in
theorem cl_X10_follows_L17 {l : Launch} {p : Program} {e : Env} {s : State} {m : MethodId} {args : Array Value} {below : List Frame} {meth : Method} {c : Code} {Q : State → Prop} {D : va_G} {E : Nat → ClassId} {z : Nat} (F : am_F p s m args meth c cX10_follows 3 RX10 D E z) (a1 : Int32) : ∀ (n : Nat) (a2 : Int32) (M : am_M) (x : Unit) (M1 : am_M), g_X10_follows_L17 a1 n a2 M = some (x, M1) → (am_W p l e rm_X10_follows s m args below meth c Q 3 D E z 0 0 M1 46 [] []) → am_W p l e rm_X10_follows s m args below meth c Q 3 D E z 0 0 M 17 [(0, .ref (z + 174)), (1, .int a1), (2, .int a2)] [] := by
  intro n
  induction n with
  | zero => intro a2 M x M1 h K; cases h
  | succ n ih =>
    intro a2 M x M1 h K
    rw [g_X10_follows_L17] at h
    refine am_iload_n F 2 dX10_follows_17 rfl rfl ?_
    refine am_aload_n F 0 dX10_follows_18 rfl rfl ?_
    refine gf_X10_126 F lyk_174 dX10_follows_19 ?_
    refine am_icmp_ge F (tgt := 46) dX10_follows_22 (by decide) (fun c8 => ?_) (fun c8 => ?_)
    · have h := (if_pos c8).symm.trans h
      cases h
      exact am_sub (lv' := []) [] rfl (K)
    · have h := (if_neg c8).symm.trans h
      refine am_aload_n F 0 dX10_follows_25 rfl rfl ?_
      refine am_iload_n F 1 dX10_follows_26 rfl rfl ?_
      refine am_bipush F (v := (11 : Int32)) dX10_follows_27 (by decide) ?_
      refine am_iload_n F 2 dX10_follows_29 rfl rfl ?_
      refine am_iadd F dX10_follows_30 ?_
      refine am_aload_n F 0 dX10_follows_31 rfl rfl ?_
      refine gf_X10_45 F lyk_174 dX10_follows_32 ?_
      refine am_iload_n F 2 dX10_follows_35 rfl rfl ?_
      obtain ⟨q5, h⟩ := am_ciE h
      refine am_iald F lyk_184 q5 dX10_follows_36 ?_
      obtain ⟨_, M7, h6, h⟩ := am_bE h
      refine am_callVv F [.int a1, .int ((11 : Int32) + a2), .int (am_g M 184 a2.toNatClampNeg)] lyk_174 (by decide) rfl cw_X10_145 (c_X10_put l D E z a1 ((11 : Int32) + a2) (am_g M 184 a2.toNatClampNeg) M M7 h6) yn_X10_put rfl ⟨Nat.le_of_ble_eq_true rfl, Nat.le_of_ble_eq_true rfl⟩ rfl rfl (Nat.le_of_ble_eq_true rfl) ⟨Nat.zero_le _, Nat.zero_le _⟩ dX10_follows_37 rfl ?_
      refine am_iinc F [(2, .int (a2 + (1 : Int32))), (0, .ref (z + 174)), (1, .int a1)] 2 dX10_follows_40 (by decide) rfl rfl rfl ?_
      refine am_goto F (tgt := 17) dX10_follows_43 (by decide) ?_
      exact am_sub (lv' := [(0, .ref (z + 174)), (1, .int a1), (2, .int (a2 + (1 : Int32)))]) [1, 2, 0] rfl (ih (a2 + (1 : Int32)) M7 _ _ h K)
def g_X10_follows (a1 : Int32) (M : am_M) : Option (Unit × am_M) := (am_b (g_X10_reopens a1 M) (fun _ M2 => (am_b (g_X10_put a1 (2 : Int32) (am_g M2 174 15) M2) (fun _ M4 => (am_b (g_X10_follows_L17 a1 am_fu (0 : Int32) M4) (fun x9 M10 => (some ((), M10))))))))
set_option maxHeartbeats 4000000 in
set_option maxRecDepth 100000 in
theorem c_X10_follows (l : Launch) (D : va_G) (E : Nat → ClassId) (z : Nat) (a1 : Int32) (M : am_M)  (M1 : am_M) (h : g_X10_follows a1 M = some ((), M1)) : am_Mv l yX10_follows cX10_follows 3 none rm_X10_follows D E z [.ref (z + 174), .int a1] M M1 := by
  unfold g_X10_follows at h
  refine am_of (own := RX10) (by decide +kernel) rfl (by exact Nat.le_of_ble_eq_true rfl) ?_
  intro p e s m args below meth c F hr
  show am_W p l e rm_X10_follows s m args below meth c _ 3 D E z 0 0 M 0 [(0, .ref (z + 174)), (1, .int a1)] []
  refine am_aload_n F 0 dX10_follows_0 rfl rfl ?_
  refine am_iload_n F 1 dX10_follows_1 rfl rfl ?_
  obtain ⟨_, M2, h1, h⟩ := am_bE h
  refine am_callVv F [.int a1] lyk_174 (by decide) rfl cw_X10_148 (c_X10_reopens l D E z a1 M M2 h1) yn_X10_reopens rfl ⟨Nat.le_of_ble_eq_true rfl, Nat.le_of_ble_eq_true rfl⟩ rfl rfl (Nat.le_of_ble_eq_true rfl) ⟨Nat.zero_le _, Nat.zero_le _⟩ dX10_follows_2 rfl ?_
  refine am_aload_n F 0 dX10_follows_5 rfl rfl ?_
  refine am_iload_n F 1 dX10_follows_6 rfl rfl ?_
  refine am_iconst F (v := (2 : Int32)) dX10_follows_7 (by decide) ?_
  refine am_aload_n F 0 dX10_follows_8 rfl rfl ?_
  refine gf_X10_126 F lyk_174 dX10_follows_9 ?_
  obtain ⟨_, M4, h3, h⟩ := am_bE h
  refine am_callVv F [.int a1, .int (2 : Int32), .int (am_g M2 174 15)] lyk_174 (by decide) rfl cw_X10_145 (c_X10_put l D E z a1 (2 : Int32) (am_g M2 174 15) M2 M4 h3) yn_X10_put rfl ⟨Nat.le_of_ble_eq_true rfl, Nat.le_of_ble_eq_true rfl⟩ rfl rfl (Nat.le_of_ble_eq_true rfl) ⟨Nat.zero_le _, Nat.zero_le _⟩ dX10_follows_12 rfl ?_
  refine am_iconst F (v := (0 : Int32)) dX10_follows_15 (by decide) ?_
  refine am_istore_n F [(2, .int (0 : Int32)), (0, .ref (z + 174)), (1, .int a1)] dX10_follows_16 rfl (by decide) rfl ?_
  obtain ⟨x9, M10, h11, h⟩ := am_bE h
  refine am_sub (lv' := [(0, .ref (z + 174)), (1, .int a1), (2, .int (0 : Int32))]) [1, 2, 0] rfl (cl_X10_follows_L17 F a1 am_fu (0 : Int32) M4 x9 M10 h11 ?_)
  exact am_vret F hr h dX10_follows_46
/-! AisleSchedulerModel.canPlan(II)Z -/
abbrev rm_X10_canPlan : Room := { frames := 8, cells := 0, slots := 0, locals := 195 }
theorem yn_X10_canPlan : am_yn yX10_canPlan 2 := ⟨⟨by decide +kernel, by decide +kernel⟩, by decide +kernel⟩
def g_X10_canPlan (a1 : Int32) (a2 : Int32) (M : am_M) : Option (Int32 × am_M) := (am_b (g_X10_isInLift a1 M) (fun v3 M2 => (if v3 = (0 : Int32) then (am_b (g_X10_hasRoute a1 a2 M2) (fun v6 M5 => (if v6 = (0 : Int32) then (some ((0 : Int32), M5)) else (am_b (g_X10_of a1 (1 : Int32) M5) (fun v9 M8 => (if v9 < (am_g M5 174 17) then (some ((0 : Int32), M8)) else (some ((1 : Int32), M8)))))))) else (some ((0 : Int32), M2)))))
set_option maxHeartbeats 4000000 in
set_option maxRecDepth 100000 in
theorem c_X10_canPlan (l : Launch) (D : va_G) (E : Nat → ClassId) (z : Nat) (a1 : Int32) (a2 : Int32) (M : am_M) (r0 : Int32) (M1 : am_M) (h : g_X10_canPlan a1 a2 M = some (r0, M1)) : am_Mi l yX10_canPlan cX10_canPlan 3 (some .boolean) rm_X10_canPlan D E z [.ref (z + 174), .int a1, .int a2] M r0 M1 := by
  unfold g_X10_canPlan at h
  refine am_of (own := RX10) (by decide +kernel) rfl (by exact Nat.le_of_ble_eq_true rfl) ?_
  intro p e s m args below meth c F hr
  show am_W p l e rm_X10_canPlan s m args below meth c _ 3 D E z 0 0 M 0 [(0, .ref (z + 174)), (1, .int a1), (2, .int a2)] []
  refine am_aload_n F 0 dX10_canPlan_0 rfl rfl ?_
  refine am_iload_n F 1 dX10_canPlan_1 rfl rfl ?_
  obtain ⟨v3, M2, h1, h⟩ := am_bE h
  refine am_callVi F [.int a1] lyk_174 (by decide) rfl cw_X10_151 (c_X10_isInLift l D E z a1 M v3 M2 h1) yn_X10_isInLift rfl ⟨Nat.le_of_ble_eq_true rfl, Nat.le_of_ble_eq_true rfl⟩ rfl rfl (Nat.le_of_ble_eq_true rfl) ⟨Nat.zero_le _, Nat.zero_le _⟩ dX10_canPlan_2 rfl ?_
  refine am_if_ne F (tgt := 34) dX10_canPlan_5 (by decide) (fun c12 => ?_) (fun c12 => ?_)
  · have h := (if_neg c12).symm.trans h
    refine am_iconst F (v := (0 : Int32)) dX10_canPlan_34 (by decide) ?_
    exact am_zret F hr (by decide) h dX10_canPlan_35
  · have h := (if_pos c12).symm.trans h
    refine am_aload_n F 0 dX10_canPlan_8 rfl rfl ?_
    refine am_iload_n F 1 dX10_canPlan_9 rfl rfl ?_
    refine am_iload_n F 2 dX10_canPlan_10 rfl rfl ?_
    obtain ⟨v6, M5, h4, h⟩ := am_bE h
    refine am_callVi F [.int a1, .int a2] lyk_174 (by decide) rfl cw_X10_154 (c_X10_hasRoute l D E z a1 a2 M2 v6 M5 h4) yn_X10_hasRoute rfl ⟨Nat.le_of_ble_eq_true rfl, Nat.le_of_ble_eq_true rfl⟩ rfl rfl (Nat.le_of_ble_eq_true rfl) ⟨Nat.zero_le _, Nat.zero_le _⟩ dX10_canPlan_11 rfl ?_
    refine am_if_eq F (tgt := 34) dX10_canPlan_14 (by decide) (fun c11 => ?_) (fun c11 => ?_)
    · have h := (if_pos c11).symm.trans h
      refine am_iconst F (v := (0 : Int32)) dX10_canPlan_34 (by decide) ?_
      exact am_zret F hr (by decide) h dX10_canPlan_35
    · have h := (if_neg c11).symm.trans h
      refine am_aload_n F 0 dX10_canPlan_17 rfl rfl ?_
      refine gf_X10_119 F lyk_174 dX10_canPlan_18 ?_
      refine am_aload_n F 0 dX10_canPlan_21 rfl rfl ?_
      refine am_iload_n F 1 dX10_canPlan_22 rfl rfl ?_
      refine am_iconst F (v := (1 : Int32)) dX10_canPlan_23 (by decide) ?_
      obtain ⟨v9, M8, h7, h⟩ := am_bE h
      refine am_callVi F [.int a1, .int (1 : Int32)] lyk_174 (by decide) rfl cw_X10_58 (c_X10_of l D E z a1 (1 : Int32) M5 v9 M8 h7) yn_X10_of rfl ⟨Nat.le_of_ble_eq_true rfl, Nat.le_of_ble_eq_true rfl⟩ rfl rfl (Nat.le_of_ble_eq_true rfl) ⟨Nat.zero_le _, Nat.zero_le _⟩ dX10_canPlan_24 rfl ?_
      refine am_icmp_gt F (tgt := 34) dX10_canPlan_27 (by decide) (fun c10 => ?_) (fun c10 => ?_)
      · have h := (if_pos c10).symm.trans h
        refine am_iconst F (v := (0 : Int32)) dX10_canPlan_34 (by decide) ?_
        exact am_zret F hr (by decide) h dX10_canPlan_35
      · have h := (if_neg c10).symm.trans h
        refine am_iconst F (v := (1 : Int32)) dX10_canPlan_30 (by decide) ?_
        refine am_goto F (tgt := 35) dX10_canPlan_31 (by decide) ?_
        exact am_zret F hr (by decide) h dX10_canPlan_35
/-! AisleSchedulerModel.clears()V -/
abbrev rm_X10_clears : Room := { frames := 1, cells := 0, slots := 0, locals := 24 }
theorem yn_X10_clears : am_yn yX10_clears 0 := ⟨⟨by decide +kernel, by decide +kernel⟩, by decide +kernel⟩
def g_X10_clears_L2  : Nat → Int32 → am_M → Option ((Unit) × am_M)
  | 0, _, _ => none
  | n + 1, a1, M => (if (406 : Int32) ≤ a1 then (some ((), M)) else (am_ci a1 406 (g_X10_clears_L2  n (a1 + (1 : Int32)) (am_s M 175 a1.toNatClampNeg (0 : Int32)))))
set_option maxHeartbeats 4000000 in
set_option maxRecDepth 100000 in
theorem cl_X10_clears_L2 {l : Launch} {p : Program} {e : Env} {s : State} {m : MethodId} {args : Array Value} {below : List Frame} {meth : Method} {c : Code} {Q : State → Prop} {D : va_G} {E : Nat → ClassId} {z : Nat} (F : am_F p s m args meth c cX10_clears 2 RX10 D E z)  : ∀ (n : Nat) (a1 : Int32) (M : am_M) (x : Unit) (M1 : am_M), g_X10_clears_L2  n a1 M = some (x, M1) → (am_W p l e rm_X10_clears s m args below meth c Q 2 D E z 0 0 M1 22 [] []) → am_W p l e rm_X10_clears s m args below meth c Q 2 D E z 0 0 M 2 [(0, .ref (z + 174)), (1, .int a1)] [] := by
  intro n
  induction n with
  | zero => intro a1 M x M1 h K; cases h
  | succ n ih =>
    intro a1 M x M1 h K
    rw [g_X10_clears_L2] at h
    refine am_iload_n F 1 dX10_clears_2 rfl rfl ?_
    refine am_sipush F (v := (406 : Int32)) dX10_clears_3 (by decide) ?_
    refine am_icmp_ge F (tgt := 22) dX10_clears_6 (by decide) (fun c2 => ?_) (fun c2 => ?_)
    · have h := (if_pos c2).symm.trans h
      cases h
      exact am_sub (lv' := []) [] rfl (K)
    · have h := (if_neg c2).symm.trans h
      refine am_aload_n F 0 dX10_clears_9 rfl rfl ?_
      refine gf_X10_7 F lyk_174 dX10_clears_10 ?_
      refine am_iload_n F 1 dX10_clears_13 rfl rfl ?_
      refine am_iconst F (v := (0 : Int32)) dX10_clears_14 (by decide) ?_
      obtain ⟨q1, h⟩ := am_ciE h
      refine am_iast F lyk_175 q1 dX10_clears_15 ?_
      refine am_iinc F [(1, .int (a1 + (1 : Int32))), (0, .ref (z + 174))] 1 dX10_clears_16 (by decide) rfl rfl rfl ?_
      refine am_goto F (tgt := 2) dX10_clears_19 (by decide) ?_
      exact am_sub (lv' := [(0, .ref (z + 174)), (1, .int (a1 + (1 : Int32)))]) [1, 0] rfl (ih (a1 + (1 : Int32)) (am_s M 175 a1.toNatClampNeg (0 : Int32)) _ _ h K)
def g_X10_clears  (M : am_M) : Option (Unit × am_M) := (am_b (g_X10_clears_L2  am_fu (0 : Int32) M) (fun x3 M4 => (some ((), M4))))
set_option maxHeartbeats 4000000 in
set_option maxRecDepth 100000 in
theorem c_X10_clears (l : Launch) (D : va_G) (E : Nat → ClassId) (z : Nat)  (M : am_M)  (M1 : am_M) (h : g_X10_clears  M = some ((), M1)) : am_Mv l yX10_clears cX10_clears 2 none rm_X10_clears D E z [.ref (z + 174)] M M1 := by
  unfold g_X10_clears at h
  refine am_of (own := RX10) (by decide +kernel) rfl (by exact Nat.le_of_ble_eq_true rfl) ?_
  intro p e s m args below meth c F hr
  show am_W p l e rm_X10_clears s m args below meth c _ 2 D E z 0 0 M 0 [(0, .ref (z + 174))] []
  refine am_iconst F (v := (0 : Int32)) dX10_clears_0 (by decide) ?_
  refine am_istore_n F [(1, .int (0 : Int32)), (0, .ref (z + 174))] dX10_clears_1 rfl (by decide) rfl ?_
  obtain ⟨x3, M4, h5, h⟩ := am_bE h
  refine am_sub (lv' := [(0, .ref (z + 174)), (1, .int (0 : Int32))]) [1, 0] rfl (cl_X10_clears_L2 F  am_fu (0 : Int32) M x3 M4 h5 ?_)
  exact am_vret F hr h dX10_clears_22
/-! AisleSchedulerModel.clear()I -/
abbrev rm_X10_clear : Room := { frames := 2, cells := 0, slots := 0, locals := 45 }
theorem yn_X10_clear : am_yn yX10_clear 0 := ⟨⟨by decide +kernel, by decide +kernel⟩, by decide +kernel⟩
def g_X10_clear  (M : am_M) : Option (Int32 × am_M) := (am_ci (6 : Int32) 406 (am_b (g_X10_clears  (am_s M 174 0 (0 : Int32))) (fun _ M3 => (some ((am_g (am_s M 174 0 (0 : Int32)) 175 (6 : Int32).toNatClampNeg), M3)))))
set_option maxHeartbeats 4000000 in
set_option maxRecDepth 100000 in
theorem c_X10_clear (l : Launch) (D : va_G) (E : Nat → ClassId) (z : Nat)  (M : am_M) (r0 : Int32) (M1 : am_M) (h : g_X10_clear  M = some (r0, M1)) : am_Mi l yX10_clear cX10_clear 2 (some .int) rm_X10_clear D E z [.ref (z + 174)] M r0 M1 := by
  unfold g_X10_clear at h
  refine am_of (own := RX10) (by decide +kernel) rfl (by exact Nat.le_of_ble_eq_true rfl) ?_
  intro p e s m args below meth c F hr
  show am_W p l e rm_X10_clear s m args below meth c _ 2 D E z 0 0 M 0 [(0, .ref (z + 174))] []
  refine am_aload_n F 0 dX10_clear_0 rfl rfl ?_
  refine am_iconst F (v := (0 : Int32)) dX10_clear_1 (by decide) ?_
  refine pf_X10_51 F lyk_174 dX10_clear_2 ?_
  refine am_aload_n F 0 dX10_clear_5 rfl rfl ?_
  refine gf_X10_7 F lyk_174 dX10_clear_6 ?_
  refine am_bipush F (v := (6 : Int32)) dX10_clear_9 (by decide) ?_
  obtain ⟨q1, h⟩ := am_ciE h
  refine am_iald F lyk_175 q1 dX10_clear_11 ?_
  refine am_istore_n F [(1, .int (am_g (am_s M 174 0 (0 : Int32)) 175 (6 : Int32).toNatClampNeg)), (0, .ref (z + 174))] dX10_clear_12 rfl (by decide) rfl ?_
  refine am_aload_n F 1 dX10_clear_13 rfl rfl ?_
  obtain ⟨_, M3, h2, h⟩ := am_bE h
  refine am_callVv F [] lyk_174 (by decide) rfl cw_X10_158 (c_X10_clears l D E z  (am_s M 174 0 (0 : Int32)) M3 h2) yn_X10_clears rfl ⟨Nat.le_of_ble_eq_true rfl, Nat.le_of_ble_eq_true rfl⟩ rfl rfl (Nat.le_of_ble_eq_true rfl) ⟨Nat.zero_le _, Nat.zero_le _⟩ dX10_clear_14 rfl ?_
  refine am_iload_n F 0 dX10_clear_17 rfl rfl ?_
  exact am_iret F hr h dX10_clear_18
/-! AisleSchedulerModel.isUsed(I)Z -/
abbrev rm_X10_isUsed : Room := { frames := 5, cells := 0, slots := 0, locals := 117 }
theorem yn_X10_isUsed : am_yn yX10_isUsed 1 := ⟨⟨by decide +kernel, by decide +kernel⟩, by decide +kernel⟩
def g_X10_isUsed_L8 (a1 : Int32) : Nat → Int32 → Int32 → am_M → Option ((Int32) × am_M)
  | 0, _, _, _ => none
  | n + 1, a2, a3, M => (am_ci (6 : Int32) 406 (if ((31 : Int32) * (am_g M 175 (6 : Int32).toNatClampNeg)) ≤ a3 then (some (a2, M)) else (if a2 = (0 : Int32) then (am_ci a3 155 (if (am_g M 180 a3.toNatClampNeg) = a1 then (g_X10_isUsed_L8 a1 n (1 : Int32) (a3 + (1 : Int32)) M) else (g_X10_isUsed_L8 a1 n (0 : Int32) (a3 + (1 : Int32)) M))) else (g_X10_isUsed_L8 a1 n (1 : Int32) (a3 + (1 : Int32)) M))))
set_option maxHeartbeats 4000000 in
set_option maxRecDepth 100000 in
theorem cl_X10_isUsed_L8 {l : Launch} {p : Program} {e : Env} {s : State} {m : MethodId} {args : Array Value} {below : List Frame} {meth : Method} {c : Code} {Q : State → Prop} {D : va_G} {E : Nat → ClassId} {z : Nat} (F : am_F p s m args meth c cX10_isUsed 4 RX10 D E z) (a1 : Int32) : ∀ (n : Nat) (a2 : Int32) (a3 : Int32) (M : am_M) (x : Int32) (M1 : am_M), g_X10_isUsed_L8 a1 n a2 a3 M = some (x, M1) → (am_W p l e rm_X10_isUsed s m args below meth c Q 4 D E z 0 0 M1 48 [(2, .int x)] []) → am_W p l e rm_X10_isUsed s m args below meth c Q 4 D E z 0 0 M 8 [(0, .ref (z + 174)), (1, .int a1), (2, .int a2), (3, .int a3)] [] := by
  intro n
  induction n with
  | zero => intro a2 a3 M x M1 h K; cases h
  | succ n ih =>
    intro a2 a3 M x M1 h K
    rw [g_X10_isUsed_L8] at h
    refine am_iload_n F 3 dX10_isUsed_8 rfl rfl ?_
    refine am_bipush F (v := (31 : Int32)) dX10_isUsed_9 (by decide) ?_
    refine am_aload_n F 0 dX10_isUsed_11 rfl rfl ?_
    refine gf_X10_7 F lyk_174 dX10_isUsed_12 ?_
    refine am_bipush F (v := (6 : Int32)) dX10_isUsed_15 (by decide) ?_
    obtain ⟨q3, h⟩ := am_ciE h
    refine am_iald F lyk_175 q3 dX10_isUsed_17 ?_
    refine am_imul F dX10_isUsed_18 ?_
    refine am_icmp_ge F (tgt := 48) dX10_isUsed_19 (by decide) (fun c7 => ?_) (fun c7 => ?_)
    · have h := (if_pos c7).symm.trans h
      cases h
      exact am_sub (lv' := [(2, .int a2)]) [2] rfl (K)
    · have h := (if_neg c7).symm.trans h
      refine am_iload_n F 2 dX10_isUsed_22 rfl rfl ?_
      refine am_if_ne F (tgt := 36) dX10_isUsed_23 (by decide) (fun c6 => ?_) (fun c6 => ?_)
      · have h := (if_neg c6).symm.trans h
        refine am_iconst F (v := (1 : Int32)) dX10_isUsed_36 (by decide) ?_
        refine am_goto F (tgt := 41) dX10_isUsed_37 (by decide) ?_
        refine am_istore_n F [(2, .int (1 : Int32)), (0, .ref (z + 174)), (1, .int a1), (3, .int a3)] dX10_isUsed_41 rfl (by decide) rfl ?_
        refine am_iinc F [(3, .int (a3 + (1 : Int32))), (2, .int (1 : Int32)), (0, .ref (z + 174)), (1, .int a1)] 3 dX10_isUsed_42 (by decide) rfl rfl rfl ?_
        refine am_goto F (tgt := 8) dX10_isUsed_45 (by decide) ?_
        exact am_sub (lv' := [(0, .ref (z + 174)), (1, .int a1), (2, .int (1 : Int32)), (3, .int (a3 + (1 : Int32)))]) [2, 3, 1, 0] rfl (ih (1 : Int32) (a3 + (1 : Int32)) M _ _ h K)
      · have h := (if_pos c6).symm.trans h
        refine am_aload_n F 0 dX10_isUsed_26 rfl rfl ?_
        refine gf_X10_29 F lyk_174 dX10_isUsed_27 ?_
        refine am_iload_n F 3 dX10_isUsed_30 rfl rfl ?_
        obtain ⟨q4, h⟩ := am_ciE h
        refine am_iald F lyk_180 q4 dX10_isUsed_31 ?_
        refine am_iload_n F 1 dX10_isUsed_32 rfl rfl ?_
        refine am_icmp_ne F (tgt := 40) dX10_isUsed_33 (by decide) (fun c5 => ?_) (fun c5 => ?_)
        · have h := (if_neg c5).symm.trans h
          refine am_iconst F (v := (0 : Int32)) dX10_isUsed_40 (by decide) ?_
          refine am_istore_n F [(2, .int (0 : Int32)), (0, .ref (z + 174)), (1, .int a1), (3, .int a3)] dX10_isUsed_41 rfl (by decide) rfl ?_
          refine am_iinc F [(3, .int (a3 + (1 : Int32))), (2, .int (0 : Int32)), (0, .ref (z + 174)), (1, .int a1)] 3 dX10_isUsed_42 (by decide) rfl rfl rfl ?_
          refine am_goto F (tgt := 8) dX10_isUsed_45 (by decide) ?_
          exact am_sub (lv' := [(0, .ref (z + 174)), (1, .int a1), (2, .int (0 : Int32)), (3, .int (a3 + (1 : Int32)))]) [2, 3, 1, 0] rfl (ih (0 : Int32) (a3 + (1 : Int32)) M _ _ h K)
        · have h := (if_pos c5).symm.trans h
          refine am_iconst F (v := (1 : Int32)) dX10_isUsed_36 (by decide) ?_
          refine am_goto F (tgt := 41) dX10_isUsed_37 (by decide) ?_
          refine am_istore_n F [(2, .int (1 : Int32)), (0, .ref (z + 174)), (1, .int a1), (3, .int a3)] dX10_isUsed_41 rfl (by decide) rfl ?_
          refine am_iinc F [(3, .int (a3 + (1 : Int32))), (2, .int (1 : Int32)), (0, .ref (z + 174)), (1, .int a1)] 3 dX10_isUsed_42 (by decide) rfl rfl rfl ?_
          refine am_goto F (tgt := 8) dX10_isUsed_45 (by decide) ?_
          exact am_sub (lv' := [(0, .ref (z + 174)), (1, .int a1), (2, .int (1 : Int32)), (3, .int (a3 + (1 : Int32)))]) [2, 3, 1, 0] rfl (ih (1 : Int32) (a3 + (1 : Int32)) M _ _ h K)
def g_X10_isUsed (a1 : Int32) (M : am_M) : Option (Int32 × am_M) := (am_b (g_X10_allForeseen  M) (fun _ M2 => (am_b (g_X10_isUsed_L8 a1 am_fu (0 : Int32) (0 : Int32) M2) (fun x8 M9 => (am_c (x8 = 0 ∨ x8 = 1) (some (x8, M9)))))))
set_option maxHeartbeats 4000000 in
set_option maxRecDepth 100000 in
theorem c_X10_isUsed (l : Launch) (D : va_G) (E : Nat → ClassId) (z : Nat) (a1 : Int32) (M : am_M) (r0 : Int32) (M1 : am_M) (h : g_X10_isUsed a1 M = some (r0, M1)) : am_Mi l yX10_isUsed cX10_isUsed 4 (some .boolean) rm_X10_isUsed D E z [.ref (z + 174), .int a1] M r0 M1 := by
  unfold g_X10_isUsed at h
  refine am_of (own := RX10) (by decide +kernel) rfl (by exact Nat.le_of_ble_eq_true rfl) ?_
  intro p e s m args below meth c F hr
  show am_W p l e rm_X10_isUsed s m args below meth c _ 4 D E z 0 0 M 0 [(0, .ref (z + 174)), (1, .int a1)] []
  refine am_aload_n F 0 dX10_isUsed_0 rfl rfl ?_
  obtain ⟨_, M2, h1, h⟩ := am_bE h
  refine am_callVv F [] lyk_174 (by decide) rfl cw_X10_132 (c_X10_allForeseen l D E z  M M2 h1) yn_X10_allForeseen rfl ⟨Nat.le_of_ble_eq_true rfl, Nat.le_of_ble_eq_true rfl⟩ rfl rfl (Nat.le_of_ble_eq_true rfl) ⟨Nat.zero_le _, Nat.zero_le _⟩ dX10_isUsed_1 rfl ?_
  refine am_iconst F (v := (0 : Int32)) dX10_isUsed_4 (by decide) ?_
  refine am_istore_n F [(2, .int (0 : Int32)), (0, .ref (z + 174)), (1, .int a1)] dX10_isUsed_5 rfl (by decide) rfl ?_
  refine am_iconst F (v := (0 : Int32)) dX10_isUsed_6 (by decide) ?_
  refine am_istore_n F [(3, .int (0 : Int32)), (2, .int (0 : Int32)), (0, .ref (z + 174)), (1, .int a1)] dX10_isUsed_7 rfl (by decide) rfl ?_
  obtain ⟨x8, M9, h10, h⟩ := am_bE h
  refine am_sub (lv' := [(0, .ref (z + 174)), (1, .int a1), (2, .int (0 : Int32)), (3, .int (0 : Int32))]) [2, 3, 1, 0] rfl (cl_X10_isUsed_L8 F a1 am_fu (0 : Int32) (0 : Int32) M2 x8 M9 h10 ?_)
  refine am_iload_n F 0 dX10_isUsed_48 rfl rfl ?_
  obtain ⟨q11, h⟩ := am_cE h
  exact am_zret F hr q11 h dX10_isUsed_49
/-! AisleSchedulerModel.setCell(II)I -/
abbrev rm_X10_setCell : Room := { frames := 6, cells := 0, slots := 0, locals := 140 }
theorem yn_X10_setCell : am_yn yX10_setCell 2 := ⟨⟨by decide +kernel, by decide +kernel⟩, by decide +kernel⟩
def g_X10_setCell_J60 (a1 : Int32) (a2 : Int32) (M : am_M) : Option (Int32 × am_M) := (am_ci ((8 : Int32) + a1) 406 (am_ci ((8 : Int32) + a1) 406 (some ((am_g M 175 ((8 : Int32) + a1).toNatClampNeg), (am_s M 175 ((8 : Int32) + a1).toNatClampNeg a2)))))
set_option maxHeartbeats 4000000 in
set_option maxRecDepth 100000 in
theorem cj_X10_setCell_J60 {l : Launch} {p : Program} {e : Env} {s : State} {m : MethodId} {args : Array Value} {below : List Frame} {meth : Method} {c : Code} {D : va_G} {E : Nat → ClassId} {z : Nat} (F : am_F p s m args meth c cX10_setCell 4 RX10 D E z) (hr : meth.sig.returnType = (some .int)) (a1 : Int32) (a2 : Int32) (M : am_M) (r0 : Int32) (M1 : am_M) (h : g_X10_setCell_J60 a1 a2 M = some (r0, M1)) : am_W p l e rm_X10_setCell s m args below meth c (MQ below (va_Qi (fun (r9 : Int32) (u : am_M) => r9 = r0 ∧ u = M1) (am_BQ z E D) (fun q => z ≤ q)) args s 0 0 (fun q => z ≤ q)) 4 D E z 0 0 M 60 [(0, .ref (z + 174)), (1, .int a1), (2, .int a2)] [] := by
  unfold g_X10_setCell_J60 at h
  refine am_aload_n F 0 dX10_setCell_60 rfl rfl ?_
  refine gf_X10_7 F lyk_174 dX10_setCell_61 ?_
  refine am_bipush F (v := (8 : Int32)) dX10_setCell_64 (by decide) ?_
  refine am_iload_n F 1 dX10_setCell_66 rfl rfl ?_
  refine am_iadd F dX10_setCell_67 ?_
  obtain ⟨q7, h⟩ := am_ciE h
  refine am_iald F lyk_175 q7 dX10_setCell_68 ?_
  refine am_istore_n F [(3, .int (am_g M 175 ((8 : Int32) + a1).toNatClampNeg)), (0, .ref (z + 174)), (1, .int a1), (2, .int a2)] dX10_setCell_69 rfl (by decide) rfl ?_
  refine am_aload_n F 1 dX10_setCell_70 rfl rfl ?_
  refine gf_X10_7 F lyk_174 dX10_setCell_71 ?_
  refine am_bipush F (v := (8 : Int32)) dX10_setCell_74 (by decide) ?_
  refine am_iload_n F 2 dX10_setCell_76 rfl rfl ?_
  refine am_iadd F dX10_setCell_77 ?_
  refine am_iload_n F 3 dX10_setCell_78 rfl rfl ?_
  obtain ⟨q8, h⟩ := am_ciE h
  refine am_iast F lyk_175 q8 dX10_setCell_79 ?_
  refine am_iload_n F 0 dX10_setCell_80 rfl rfl ?_
  exact am_iret F hr h dX10_setCell_81
def g_X10_setCell (a1 : Int32) (a2 : Int32) (M : am_M) : Option (Int32 × am_M) := (am_b (g_X10_isCell a1 (am_s M 174 0 (0 : Int32))) (fun v3 M2 => (if v3 = (0 : Int32) then (am_b (g_X10_fails (1 : Int32) M2) (fun v30 M29 => (some (v30, M29)))) else (am_b (g_X10_in a2 (0 : Int32) (2 : Int32) M2) (fun v6 M5 => (if v6 = (0 : Int32) then (am_b (g_X10_fails (2 : Int32) M5) (fun v26 M25 => (some (v26, M25)))) else (if a2 = (1 : Int32) then (am_b (g_X10_isUsed a1 M5) (fun v11 M10 => (if v11 = (0 : Int32) then (am_b (g_X10_isEnd a1 M10) (fun v17 M16 => (if v17 = (0 : Int32) then (g_X10_setCell_J60 a1 a2 M16) else (am_b (g_X10_fails (3 : Int32) M16) (fun v20 M19 => (some (v20, M19))))))) else (am_b (g_X10_fails (3 : Int32) M10) (fun v14 M13 => (some (v14, M13))))))) else (g_X10_setCell_J60 a1 a2 M5))))))))
set_option maxHeartbeats 4000000 in
set_option maxRecDepth 100000 in
theorem c_X10_setCell (l : Launch) (D : va_G) (E : Nat → ClassId) (z : Nat) (a1 : Int32) (a2 : Int32) (M : am_M) (r0 : Int32) (M1 : am_M) (h : g_X10_setCell a1 a2 M = some (r0, M1)) : am_Mi l yX10_setCell cX10_setCell 4 (some .int) rm_X10_setCell D E z [.ref (z + 174), .int a1, .int a2] M r0 M1 := by
  unfold g_X10_setCell at h
  refine am_of (own := RX10) (by decide +kernel) rfl (by exact Nat.le_of_ble_eq_true rfl) ?_
  intro p e s m args below meth c F hr
  show am_W p l e rm_X10_setCell s m args below meth c _ 4 D E z 0 0 M 0 [(0, .ref (z + 174)), (1, .int a1), (2, .int a2)] []
  refine am_aload_n F 0 dX10_setCell_0 rfl rfl ?_
  refine am_iconst F (v := (0 : Int32)) dX10_setCell_1 (by decide) ?_
  refine pf_X10_51 F lyk_174 dX10_setCell_2 ?_
  refine am_iload_n F 1 dX10_setCell_5 rfl rfl ?_
  obtain ⟨v3, M2, h1, h⟩ := am_bE h
  refine am_callSi F [.int a1] cw_X10_161 rfl (c_X10_isCell l D E z a1 (am_s M 174 0 (0 : Int32)) v3 M2 h1) yn_X10_isCell rfl ⟨Nat.le_of_ble_eq_true rfl, Nat.le_of_ble_eq_true rfl⟩ rfl rfl (Nat.le_of_ble_eq_true rfl) ⟨Nat.zero_le _, Nat.zero_le _⟩ dX10_setCell_6 rfl ?_
  refine am_if_ne F (tgt := 18) dX10_setCell_9 (by decide) (fun c31 => ?_) (fun c31 => ?_)
  · have h := (if_neg c31).symm.trans h
    refine am_iload_n F 2 dX10_setCell_18 rfl rfl ?_
    refine am_iconst F (v := (0 : Int32)) dX10_setCell_19 (by decide) ?_
    refine am_iconst F (v := (2 : Int32)) dX10_setCell_20 (by decide) ?_
    obtain ⟨v6, M5, h4, h⟩ := am_bE h
    refine am_callSi F [.int a2, .int (0 : Int32), .int (2 : Int32)] cw_X10_54 rfl (c_X10_in l D E z a2 (0 : Int32) (2 : Int32) M2 v6 M5 h4) yn_X10_in rfl ⟨Nat.le_of_ble_eq_true rfl, Nat.le_of_ble_eq_true rfl⟩ rfl rfl (Nat.le_of_ble_eq_true rfl) ⟨Nat.zero_le _, Nat.zero_le _⟩ dX10_setCell_21 rfl ?_
    refine am_if_ne F (tgt := 33) dX10_setCell_24 (by decide) (fun c27 => ?_) (fun c27 => ?_)
    · have h := (if_neg c27).symm.trans h
      refine am_iload_n F 2 dX10_setCell_33 rfl rfl ?_
      refine am_iconst F (v := (1 : Int32)) dX10_setCell_34 (by decide) ?_
      refine am_icmp_ne F (tgt := 60) dX10_setCell_35 (by decide) (fun c23 => ?_) (fun c23 => ?_)
      · have h := (if_neg c23).symm.trans h
        exact am_sub (lv' := [(0, .ref (z + 174)), (1, .int a1), (2, .int a2)]) [0, 1, 2] rfl (cj_X10_setCell_J60 F hr a1 a2 M5 r0 M1 h)
      · have h := (if_pos c23).symm.trans h
        refine am_aload_n F 0 dX10_setCell_38 rfl rfl ?_
        refine am_iload_n F 1 dX10_setCell_39 rfl rfl ?_
        obtain ⟨v11, M10, h9, h⟩ := am_bE h
        refine am_callVi F [.int a1] lyk_174 (by decide) rfl cw_X10_167 (c_X10_isUsed l D E z a1 M5 v11 M10 h9) yn_X10_isUsed rfl ⟨Nat.le_of_ble_eq_true rfl, Nat.le_of_ble_eq_true rfl⟩ rfl rfl (Nat.le_of_ble_eq_true rfl) ⟨Nat.zero_le _, Nat.zero_le _⟩ dX10_setCell_40 rfl ?_
        refine am_if_ne F (tgt := 54) dX10_setCell_43 (by decide) (fun c22 => ?_) (fun c22 => ?_)
        · have h := (if_neg c22).symm.trans h
          refine am_aload_n F 0 dX10_setCell_54 rfl rfl ?_
          refine am_iconst F (v := (3 : Int32)) dX10_setCell_55 (by decide) ?_
          obtain ⟨v14, M13, h12, h⟩ := am_bE h
          refine am_callVi F [.int (3 : Int32)] lyk_174 (by decide) rfl cw_X10_164 (c_X10_fails l D E z (3 : Int32) M10 v14 M13 h12) yn_X10_fails rfl ⟨Nat.le_of_ble_eq_true rfl, Nat.le_of_ble_eq_true rfl⟩ rfl rfl (Nat.le_of_ble_eq_true rfl) ⟨Nat.zero_le _, Nat.zero_le _⟩ dX10_setCell_56 rfl ?_
          exact am_iret F hr h dX10_setCell_59
        · have h := (if_pos c22).symm.trans h
          refine am_aload_n F 0 dX10_setCell_46 rfl rfl ?_
          refine am_iload_n F 1 dX10_setCell_47 rfl rfl ?_
          obtain ⟨v17, M16, h15, h⟩ := am_bE h
          refine am_callVi F [.int a1] lyk_174 (by decide) rfl cw_X10_170 (c_X10_isEnd l D E z a1 M10 v17 M16 h15) yn_X10_isEnd rfl ⟨Nat.le_of_ble_eq_true rfl, Nat.le_of_ble_eq_true rfl⟩ rfl rfl (Nat.le_of_ble_eq_true rfl) ⟨Nat.zero_le _, Nat.zero_le _⟩ dX10_setCell_48 rfl ?_
          refine am_if_eq F (tgt := 60) dX10_setCell_51 (by decide) (fun c21 => ?_) (fun c21 => ?_)
          · have h := (if_pos c21).symm.trans h
            exact am_sub (lv' := [(0, .ref (z + 174)), (1, .int a1), (2, .int a2)]) [0, 1, 2] rfl (cj_X10_setCell_J60 F hr a1 a2 M16 r0 M1 h)
          · have h := (if_neg c21).symm.trans h
            refine am_aload_n F 0 dX10_setCell_54 rfl rfl ?_
            refine am_iconst F (v := (3 : Int32)) dX10_setCell_55 (by decide) ?_
            obtain ⟨v20, M19, h18, h⟩ := am_bE h
            refine am_callVi F [.int (3 : Int32)] lyk_174 (by decide) rfl cw_X10_164 (c_X10_fails l D E z (3 : Int32) M16 v20 M19 h18) yn_X10_fails rfl ⟨Nat.le_of_ble_eq_true rfl, Nat.le_of_ble_eq_true rfl⟩ rfl rfl (Nat.le_of_ble_eq_true rfl) ⟨Nat.zero_le _, Nat.zero_le _⟩ dX10_setCell_56 rfl ?_
            exact am_iret F hr h dX10_setCell_59
    · have h := (if_pos c27).symm.trans h
      refine am_aload_n F 0 dX10_setCell_27 rfl rfl ?_
      refine am_iconst F (v := (2 : Int32)) dX10_setCell_28 (by decide) ?_
      obtain ⟨v26, M25, h24, h⟩ := am_bE h
      refine am_callVi F [.int (2 : Int32)] lyk_174 (by decide) rfl cw_X10_164 (c_X10_fails l D E z (2 : Int32) M5 v26 M25 h24) yn_X10_fails rfl ⟨Nat.le_of_ble_eq_true rfl, Nat.le_of_ble_eq_true rfl⟩ rfl rfl (Nat.le_of_ble_eq_true rfl) ⟨Nat.zero_le _, Nat.zero_le _⟩ dX10_setCell_29 rfl ?_
      exact am_iret F hr h dX10_setCell_32
  · have h := (if_pos c31).symm.trans h
    refine am_aload_n F 0 dX10_setCell_12 rfl rfl ?_
    refine am_iconst F (v := (1 : Int32)) dX10_setCell_13 (by decide) ?_
    obtain ⟨v30, M29, h28, h⟩ := am_bE h
    refine am_callVi F [.int (1 : Int32)] lyk_174 (by decide) rfl cw_X10_164 (c_X10_fails l D E z (1 : Int32) M2 v30 M29 h28) yn_X10_fails rfl ⟨Nat.le_of_ble_eq_true rfl, Nat.le_of_ble_eq_true rfl⟩ rfl rfl (Nat.le_of_ble_eq_true rfl) ⟨Nat.zero_le _, Nat.zero_le _⟩ dX10_setCell_14 rfl ?_
    exact am_iret F hr h dX10_setCell_17
/-! AisleSchedulerModel.cell(I)I -/
abbrev rm_X10_cell : Room := { frames := 3, cells := 0, slots := 0, locals := 66 }
theorem yn_X10_cell : am_yn yX10_cell 1 := ⟨⟨by decide +kernel, by decide +kernel⟩, by decide +kernel⟩
def g_X10_cell (a1 : Int32) (M : am_M) : Option (Int32 × am_M) := (am_b (g_X10_isCell a1 (am_s M 174 0 (0 : Int32))) (fun v3 M2 => (if v3 = (0 : Int32) then (am_b (g_X10_fails (1 : Int32) M2) (fun v6 M5 => (some (v6, M5)))) else (am_ci ((8 : Int32) + a1) 406 (some ((am_g M2 175 ((8 : Int32) + a1).toNatClampNeg), M2))))))
set_option maxHeartbeats 4000000 in
set_option maxRecDepth 100000 in
theorem c_X10_cell (l : Launch) (D : va_G) (E : Nat → ClassId) (z : Nat) (a1 : Int32) (M : am_M) (r0 : Int32) (M1 : am_M) (h : g_X10_cell a1 M = some (r0, M1)) : am_Mi l yX10_cell cX10_cell 2 (some .int) rm_X10_cell D E z [.ref (z + 174), .int a1] M r0 M1 := by
  unfold g_X10_cell at h
  refine am_of (own := RX10) (by decide +kernel) rfl (by exact Nat.le_of_ble_eq_true rfl) ?_
  intro p e s m args below meth c F hr
  show am_W p l e rm_X10_cell s m args below meth c _ 2 D E z 0 0 M 0 [(0, .ref (z + 174)), (1, .int a1)] []
  refine am_aload_n F 0 dX10_cell_0 rfl rfl ?_
  refine am_iconst F (v := (0 : Int32)) dX10_cell_1 (by decide) ?_
  refine pf_X10_51 F lyk_174 dX10_cell_2 ?_
  refine am_iload_n F 1 dX10_cell_5 rfl rfl ?_
  obtain ⟨v3, M2, h1, h⟩ := am_bE h
  refine am_callSi F [.int a1] cw_X10_161 rfl (c_X10_isCell l D E z a1 (am_s M 174 0 (0 : Int32)) v3 M2 h1) yn_X10_isCell rfl ⟨Nat.le_of_ble_eq_true rfl, Nat.le_of_ble_eq_true rfl⟩ rfl rfl (Nat.le_of_ble_eq_true rfl) ⟨Nat.zero_le _, Nat.zero_le _⟩ dX10_cell_6 rfl ?_
  refine am_if_eq F (tgt := 24) dX10_cell_9 (by decide) (fun c8 => ?_) (fun c8 => ?_)
  · have h := (if_pos c8).symm.trans h
    refine am_aload_n F 0 dX10_cell_24 rfl rfl ?_
    refine am_iconst F (v := (1 : Int32)) dX10_cell_25 (by decide) ?_
    obtain ⟨v6, M5, h4, h⟩ := am_bE h
    refine am_callVi F [.int (1 : Int32)] lyk_174 (by decide) rfl cw_X10_164 (c_X10_fails l D E z (1 : Int32) M2 v6 M5 h4) yn_X10_fails rfl ⟨Nat.le_of_ble_eq_true rfl, Nat.le_of_ble_eq_true rfl⟩ rfl rfl (Nat.le_of_ble_eq_true rfl) ⟨Nat.zero_le _, Nat.zero_le _⟩ dX10_cell_26 rfl ?_
    exact am_iret F hr h dX10_cell_29
  · have h := (if_neg c8).symm.trans h
    refine am_aload_n F 0 dX10_cell_12 rfl rfl ?_
    refine gf_X10_7 F lyk_174 dX10_cell_13 ?_
    refine am_bipush F (v := (8 : Int32)) dX10_cell_16 (by decide) ?_
    refine am_iload_n F 1 dX10_cell_18 rfl rfl ?_
    refine am_iadd F dX10_cell_19 ?_
    obtain ⟨q7, h⟩ := am_ciE h
    refine am_iald F lyk_175 q7 dX10_cell_20 ?_
    refine am_goto F (tgt := 29) dX10_cell_21 (by decide) ?_
    exact am_iret F hr h dX10_cell_29
/-! AisleSchedulerModel.addLift(II)I -/
abbrev rm_X10_addLift : Room := { frames := 3, cells := 0, slots := 0, locals := 66 }
theorem yn_X10_addLift : am_yn yX10_addLift 2 := ⟨⟨by decide +kernel, by decide +kernel⟩, by decide +kernel⟩
def g_X10_addLift (a1 : Int32) (a2 : Int32) (M : am_M) : Option (Int32 × am_M) := (am_b (g_X10_isCell a1 (am_s M 174 0 (0 : Int32))) (fun v3 M2 => (if v3 = (0 : Int32) then (am_b (g_X10_fails (1 : Int32) M2) (fun v6 M5 => (some (v6, M5)))) else (am_b (g_X10_isCell a2 M2) (fun v9 M8 => (if v9 = (0 : Int32) then (am_b (g_X10_fails (1 : Int32) M8) (fun v56 M55 => (some (v56, M55)))) else (if a1 = a2 then (am_b (g_X10_fails (2 : Int32) M8) (fun v12 M11 => (some (v12, M11)))) else (am_b (g_X10_isWall a1 M8) (fun v15 M14 => (if v15 = (0 : Int32) then (am_b (g_X10_isWall a2 M14) (fun v21 M20 => (if v21 = (0 : Int32) then (am_b (g_X10_isEnd a1 M20) (fun v27 M26 => (if v27 = (0 : Int32) then (am_b (g_X10_isEnd a2 M26) (fun v33 M32 => (if v33 = (0 : Int32) then (am_ci (1 : Int32) 406 (if (am_g M32 175 (1 : Int32).toNatClampNeg) = (2 : Int32) then (am_b (g_X10_fails (3 : Int32) M32) (fun v44 M43 => (some (v44, M43)))) else (am_ci (1 : Int32) 406 (am_ci ((2 : Int32) + ((2 : Int32) * (am_g M32 175 (1 : Int32).toNatClampNeg))) 406 (am_ci (1 : Int32) 406 (am_ci (((2 : Int32) + ((2 : Int32) * (am_g (am_s M32 175 ((2 : Int32) + ((2 : Int32) * (am_g M32 175 (1 : Int32).toNatClampNeg))).toNatClampNeg a1) 175 (1 : Int32).toNatClampNeg))) + (1 : Int32)) 406 (am_ci (1 : Int32) 406 (am_ci (1 : Int32) 406 (am_ci (1 : Int32) 406 (some (((am_g (am_s (am_s (am_s M32 175 ((2 : Int32) + ((2 : Int32) * (am_g M32 175 (1 : Int32).toNatClampNeg))).toNatClampNeg a1) 175 (((2 : Int32) + ((2 : Int32) * (am_g (am_s M32 175 ((2 : Int32) + ((2 : Int32) * (am_g M32 175 (1 : Int32).toNatClampNeg))).toNatClampNeg a1) 175 (1 : Int32).toNatClampNeg))) + (1 : Int32)).toNatClampNeg a2) 175 (1 : Int32).toNatClampNeg ((am_g (am_s (am_s M32 175 ((2 : Int32) + ((2 : Int32) * (am_g M32 175 (1 : Int32).toNatClampNeg))).toNatClampNeg a1) 175 (((2 : Int32) + ((2 : Int32) * (am_g (am_s M32 175 ((2 : Int32) + ((2 : Int32) * (am_g M32 175 (1 : Int32).toNatClampNeg))).toNatClampNeg a1) 175 (1 : Int32).toNatClampNeg))) + (1 : Int32)).toNatClampNeg a2) 175 (1 : Int32).toNatClampNeg) + (1 : Int32))) 175 (1 : Int32).toNatClampNeg) - (1 : Int32)), (am_s (am_s (am_s M32 175 ((2 : Int32) + ((2 : Int32) * (am_g M32 175 (1 : Int32).toNatClampNeg))).toNatClampNeg a1) 175 (((2 : Int32) + ((2 : Int32) * (am_g (am_s M32 175 ((2 : Int32) + ((2 : Int32) * (am_g M32 175 (1 : Int32).toNatClampNeg))).toNatClampNeg a1) 175 (1 : Int32).toNatClampNeg))) + (1 : Int32)).toNatClampNeg a2) 175 (1 : Int32).toNatClampNeg ((am_g (am_s (am_s M32 175 ((2 : Int32) + ((2 : Int32) * (am_g M32 175 (1 : Int32).toNatClampNeg))).toNatClampNeg a1) 175 (((2 : Int32) + ((2 : Int32) * (am_g (am_s M32 175 ((2 : Int32) + ((2 : Int32) * (am_g M32 175 (1 : Int32).toNatClampNeg))).toNatClampNeg a1) 175 (1 : Int32).toNatClampNeg))) + (1 : Int32)).toNatClampNeg a2) 175 (1 : Int32).toNatClampNeg) + (1 : Int32)))))))))))))) else (am_b (g_X10_fails (2 : Int32) M32) (fun v48 M47 => (some (v48, M47))))))) else (am_b (g_X10_fails (2 : Int32) M26) (fun v30 M29 => (some (v30, M29))))))) else (am_b (g_X10_fails (2 : Int32) M20) (fun v24 M23 => (some (v24, M23))))))) else (am_b (g_X10_fails (2 : Int32) M14) (fun v18 M17 => (some (v18, M17))))))))))))))
set_option maxHeartbeats 4000000 in
set_option maxRecDepth 100000 in
theorem c_X10_addLift (l : Launch) (D : va_G) (E : Nat → ClassId) (z : Nat) (a1 : Int32) (a2 : Int32) (M : am_M) (r0 : Int32) (M1 : am_M) (h : g_X10_addLift a1 a2 M = some (r0, M1)) : am_Mi l yX10_addLift cX10_addLift 3 (some .int) rm_X10_addLift D E z [.ref (z + 174), .int a1, .int a2] M r0 M1 := by
  unfold g_X10_addLift at h
  refine am_of (own := RX10) (by decide +kernel) rfl (by exact Nat.le_of_ble_eq_true rfl) ?_
  intro p e s m args below meth c F hr
  show am_W p l e rm_X10_addLift s m args below meth c _ 3 D E z 0 0 M 0 [(0, .ref (z + 174)), (1, .int a1), (2, .int a2)] []
  refine am_aload_n F 0 dX10_addLift_0 rfl rfl ?_
  refine am_iconst F (v := (0 : Int32)) dX10_addLift_1 (by decide) ?_
  refine pf_X10_51 F lyk_174 dX10_addLift_2 ?_
  refine am_iload_n F 1 dX10_addLift_5 rfl rfl ?_
  obtain ⟨v3, M2, h1, h⟩ := am_bE h
  refine am_callSi F [.int a1] cw_X10_161 rfl (c_X10_isCell l D E z a1 (am_s M 174 0 (0 : Int32)) v3 M2 h1) yn_X10_isCell rfl ⟨Nat.le_of_ble_eq_true rfl, Nat.le_of_ble_eq_true rfl⟩ rfl rfl (Nat.le_of_ble_eq_true rfl) ⟨Nat.zero_le _, Nat.zero_le _⟩ dX10_addLift_6 rfl ?_
  refine am_if_eq F (tgt := 19) dX10_addLift_9 (by decide) (fun c58 => ?_) (fun c58 => ?_)
  · have h := (if_pos c58).symm.trans h
    refine am_aload_n F 0 dX10_addLift_19 rfl rfl ?_
    refine am_iconst F (v := (1 : Int32)) dX10_addLift_20 (by decide) ?_
    obtain ⟨v6, M5, h4, h⟩ := am_bE h
    refine am_callVi F [.int (1 : Int32)] lyk_174 (by decide) rfl cw_X10_164 (c_X10_fails l D E z (1 : Int32) M2 v6 M5 h4) yn_X10_fails rfl ⟨Nat.le_of_ble_eq_true rfl, Nat.le_of_ble_eq_true rfl⟩ rfl rfl (Nat.le_of_ble_eq_true rfl) ⟨Nat.zero_le _, Nat.zero_le _⟩ dX10_addLift_21 rfl ?_
    exact am_iret F hr h dX10_addLift_24
  · have h := (if_neg c58).symm.trans h
    refine am_iload_n F 2 dX10_addLift_12 rfl rfl ?_
    obtain ⟨v9, M8, h7, h⟩ := am_bE h
    refine am_callSi F [.int a2] cw_X10_161 rfl (c_X10_isCell l D E z a2 M2 v9 M8 h7) yn_X10_isCell rfl ⟨Nat.le_of_ble_eq_true rfl, Nat.le_of_ble_eq_true rfl⟩ rfl rfl (Nat.le_of_ble_eq_true rfl) ⟨Nat.zero_le _, Nat.zero_le _⟩ dX10_addLift_13 rfl ?_
    refine am_if_ne F (tgt := 25) dX10_addLift_16 (by decide) (fun c57 => ?_) (fun c57 => ?_)
    · have h := (if_neg c57).symm.trans h
      refine am_iload_n F 1 dX10_addLift_25 rfl rfl ?_
      refine am_iload_n F 2 dX10_addLift_26 rfl rfl ?_
      refine am_icmp_eq F (tgt := 62) dX10_addLift_27 (by decide) (fun c53 => ?_) (fun c53 => ?_)
      · have h := (if_pos c53).symm.trans h
        refine am_aload_n F 0 dX10_addLift_62 rfl rfl ?_
        refine am_iconst F (v := (2 : Int32)) dX10_addLift_63 (by decide) ?_
        obtain ⟨v12, M11, h10, h⟩ := am_bE h
        refine am_callVi F [.int (2 : Int32)] lyk_174 (by decide) rfl cw_X10_164 (c_X10_fails l D E z (2 : Int32) M8 v12 M11 h10) yn_X10_fails rfl ⟨Nat.le_of_ble_eq_true rfl, Nat.le_of_ble_eq_true rfl⟩ rfl rfl (Nat.le_of_ble_eq_true rfl) ⟨Nat.zero_le _, Nat.zero_le _⟩ dX10_addLift_64 rfl ?_
        exact am_iret F hr h dX10_addLift_67
      · have h := (if_neg c53).symm.trans h
        refine am_aload_n F 0 dX10_addLift_30 rfl rfl ?_
        refine am_iload_n F 1 dX10_addLift_31 rfl rfl ?_
        obtain ⟨v15, M14, h13, h⟩ := am_bE h
        refine am_callVi F [.int a1] lyk_174 (by decide) rfl cw_X10_79 (c_X10_isWall l D E z a1 M8 v15 M14 h13) yn_X10_isWall rfl ⟨Nat.le_of_ble_eq_true rfl, Nat.le_of_ble_eq_true rfl⟩ rfl rfl (Nat.le_of_ble_eq_true rfl) ⟨Nat.zero_le _, Nat.zero_le _⟩ dX10_addLift_32 rfl ?_
        refine am_if_ne F (tgt := 62) dX10_addLift_35 (by decide) (fun c52 => ?_) (fun c52 => ?_)
        · have h := (if_neg c52).symm.trans h
          refine am_aload_n F 0 dX10_addLift_62 rfl rfl ?_
          refine am_iconst F (v := (2 : Int32)) dX10_addLift_63 (by decide) ?_
          obtain ⟨v18, M17, h16, h⟩ := am_bE h
          refine am_callVi F [.int (2 : Int32)] lyk_174 (by decide) rfl cw_X10_164 (c_X10_fails l D E z (2 : Int32) M14 v18 M17 h16) yn_X10_fails rfl ⟨Nat.le_of_ble_eq_true rfl, Nat.le_of_ble_eq_true rfl⟩ rfl rfl (Nat.le_of_ble_eq_true rfl) ⟨Nat.zero_le _, Nat.zero_le _⟩ dX10_addLift_64 rfl ?_
          exact am_iret F hr h dX10_addLift_67
        · have h := (if_pos c52).symm.trans h
          refine am_aload_n F 0 dX10_addLift_38 rfl rfl ?_
          refine am_iload_n F 2 dX10_addLift_39 rfl rfl ?_
          obtain ⟨v21, M20, h19, h⟩ := am_bE h
          refine am_callVi F [.int a2] lyk_174 (by decide) rfl cw_X10_79 (c_X10_isWall l D E z a2 M14 v21 M20 h19) yn_X10_isWall rfl ⟨Nat.le_of_ble_eq_true rfl, Nat.le_of_ble_eq_true rfl⟩ rfl rfl (Nat.le_of_ble_eq_true rfl) ⟨Nat.zero_le _, Nat.zero_le _⟩ dX10_addLift_40 rfl ?_
          refine am_if_ne F (tgt := 62) dX10_addLift_43 (by decide) (fun c51 => ?_) (fun c51 => ?_)
          · have h := (if_neg c51).symm.trans h
            refine am_aload_n F 0 dX10_addLift_62 rfl rfl ?_
            refine am_iconst F (v := (2 : Int32)) dX10_addLift_63 (by decide) ?_
            obtain ⟨v24, M23, h22, h⟩ := am_bE h
            refine am_callVi F [.int (2 : Int32)] lyk_174 (by decide) rfl cw_X10_164 (c_X10_fails l D E z (2 : Int32) M20 v24 M23 h22) yn_X10_fails rfl ⟨Nat.le_of_ble_eq_true rfl, Nat.le_of_ble_eq_true rfl⟩ rfl rfl (Nat.le_of_ble_eq_true rfl) ⟨Nat.zero_le _, Nat.zero_le _⟩ dX10_addLift_64 rfl ?_
            exact am_iret F hr h dX10_addLift_67
          · have h := (if_pos c51).symm.trans h
            refine am_aload_n F 0 dX10_addLift_46 rfl rfl ?_
            refine am_iload_n F 1 dX10_addLift_47 rfl rfl ?_
            obtain ⟨v27, M26, h25, h⟩ := am_bE h
            refine am_callVi F [.int a1] lyk_174 (by decide) rfl cw_X10_170 (c_X10_isEnd l D E z a1 M20 v27 M26 h25) yn_X10_isEnd rfl ⟨Nat.le_of_ble_eq_true rfl, Nat.le_of_ble_eq_true rfl⟩ rfl rfl (Nat.le_of_ble_eq_true rfl) ⟨Nat.zero_le _, Nat.zero_le _⟩ dX10_addLift_48 rfl ?_
            refine am_if_ne F (tgt := 62) dX10_addLift_51 (by decide) (fun c50 => ?_) (fun c50 => ?_)
            · have h := (if_neg c50).symm.trans h
              refine am_aload_n F 0 dX10_addLift_62 rfl rfl ?_
              refine am_iconst F (v := (2 : Int32)) dX10_addLift_63 (by decide) ?_
              obtain ⟨v30, M29, h28, h⟩ := am_bE h
              refine am_callVi F [.int (2 : Int32)] lyk_174 (by decide) rfl cw_X10_164 (c_X10_fails l D E z (2 : Int32) M26 v30 M29 h28) yn_X10_fails rfl ⟨Nat.le_of_ble_eq_true rfl, Nat.le_of_ble_eq_true rfl⟩ rfl rfl (Nat.le_of_ble_eq_true rfl) ⟨Nat.zero_le _, Nat.zero_le _⟩ dX10_addLift_64 rfl ?_
              exact am_iret F hr h dX10_addLift_67
            · have h := (if_pos c50).symm.trans h
              refine am_aload_n F 0 dX10_addLift_54 rfl rfl ?_
              refine am_iload_n F 2 dX10_addLift_55 rfl rfl ?_
              obtain ⟨v33, M32, h31, h⟩ := am_bE h
              refine am_callVi F [.int a2] lyk_174 (by decide) rfl cw_X10_170 (c_X10_isEnd l D E z a2 M26 v33 M32 h31) yn_X10_isEnd rfl ⟨Nat.le_of_ble_eq_true rfl, Nat.le_of_ble_eq_true rfl⟩ rfl rfl (Nat.le_of_ble_eq_true rfl) ⟨Nat.zero_le _, Nat.zero_le _⟩ dX10_addLift_56 rfl ?_
              refine am_if_eq F (tgt := 68) dX10_addLift_59 (by decide) (fun c49 => ?_) (fun c49 => ?_)
              · have h := (if_pos c49).symm.trans h
                refine am_aload_n F 0 dX10_addLift_68 rfl rfl ?_
                refine gf_X10_7 F lyk_174 dX10_addLift_69 ?_
                refine am_iconst F (v := (1 : Int32)) dX10_addLift_72 (by decide) ?_
                obtain ⟨q34, h⟩ := am_ciE h
                refine am_iald F lyk_175 q34 dX10_addLift_73 ?_
                refine am_iconst F (v := (2 : Int32)) dX10_addLift_74 (by decide) ?_
                refine am_icmp_ne F (tgt := 84) dX10_addLift_75 (by decide) (fun c45 => ?_) (fun c45 => ?_)
                · have h := (if_neg c45).symm.trans h
                  refine am_aload_n F 0 dX10_addLift_84 rfl rfl ?_
                  refine gf_X10_7 F lyk_174 dX10_addLift_85 ?_
                  refine am_iconst F (v := (2 : Int32)) dX10_addLift_88 (by decide) ?_
                  refine am_iconst F (v := (2 : Int32)) dX10_addLift_89 (by decide) ?_
                  refine am_aload_n F 0 dX10_addLift_90 rfl rfl ?_
                  refine gf_X10_7 F lyk_174 dX10_addLift_91 ?_
                  refine am_iconst F (v := (1 : Int32)) dX10_addLift_94 (by decide) ?_
                  obtain ⟨q35, h⟩ := am_ciE h
                  refine am_iald F lyk_175 q35 dX10_addLift_95 ?_
                  refine am_imul F dX10_addLift_96 ?_
                  refine am_iadd F dX10_addLift_97 ?_
                  refine am_iload_n F 1 dX10_addLift_98 rfl rfl ?_
                  obtain ⟨q36, h⟩ := am_ciE h
                  refine am_iast F lyk_175 q36 dX10_addLift_99 ?_
                  refine am_aload_n F 0 dX10_addLift_100 rfl rfl ?_
                  refine gf_X10_7 F lyk_174 dX10_addLift_101 ?_
                  refine am_iconst F (v := (2 : Int32)) dX10_addLift_104 (by decide) ?_
                  refine am_iconst F (v := (2 : Int32)) dX10_addLift_105 (by decide) ?_
                  refine am_aload_n F 0 dX10_addLift_106 rfl rfl ?_
                  refine gf_X10_7 F lyk_174 dX10_addLift_107 ?_
                  refine am_iconst F (v := (1 : Int32)) dX10_addLift_110 (by decide) ?_
                  obtain ⟨q37, h⟩ := am_ciE h
                  refine am_iald F lyk_175 q37 dX10_addLift_111 ?_
                  refine am_imul F dX10_addLift_112 ?_
                  refine am_iadd F dX10_addLift_113 ?_
                  refine am_iconst F (v := (1 : Int32)) dX10_addLift_114 (by decide) ?_
                  refine am_iadd F dX10_addLift_115 ?_
                  refine am_iload_n F 2 dX10_addLift_116 rfl rfl ?_
                  obtain ⟨q38, h⟩ := am_ciE h
                  refine am_iast F lyk_175 q38 dX10_addLift_117 ?_
                  refine am_aload_n F 0 dX10_addLift_118 rfl rfl ?_
                  refine gf_X10_7 F lyk_174 dX10_addLift_119 ?_
                  refine am_iconst F (v := (1 : Int32)) dX10_addLift_122 (by decide) ?_
                  refine am_dup2 F dX10_addLift_123 rfl rfl ?_
                  obtain ⟨q39, h⟩ := am_ciE h
                  refine am_iald F lyk_175 q39 dX10_addLift_124 ?_
                  refine am_iconst F (v := (1 : Int32)) dX10_addLift_125 (by decide) ?_
                  refine am_iadd F dX10_addLift_126 ?_
                  obtain ⟨q40, h⟩ := am_ciE h
                  refine am_iast F lyk_175 q40 dX10_addLift_127 ?_
                  refine am_aload_n F 0 dX10_addLift_128 rfl rfl ?_
                  refine gf_X10_7 F lyk_174 dX10_addLift_129 ?_
                  refine am_iconst F (v := (1 : Int32)) dX10_addLift_132 (by decide) ?_
                  obtain ⟨q41, h⟩ := am_ciE h
                  refine am_iald F lyk_175 q41 dX10_addLift_133 ?_
                  refine am_iconst F (v := (1 : Int32)) dX10_addLift_134 (by decide) ?_
                  refine am_isub F dX10_addLift_135 ?_
                  exact am_iret F hr h dX10_addLift_136
                · have h := (if_pos c45).symm.trans h
                  refine am_aload_n F 0 dX10_addLift_78 rfl rfl ?_
                  refine am_iconst F (v := (3 : Int32)) dX10_addLift_79 (by decide) ?_
                  obtain ⟨v44, M43, h42, h⟩ := am_bE h
                  refine am_callVi F [.int (3 : Int32)] lyk_174 (by decide) rfl cw_X10_164 (c_X10_fails l D E z (3 : Int32) M32 v44 M43 h42) yn_X10_fails rfl ⟨Nat.le_of_ble_eq_true rfl, Nat.le_of_ble_eq_true rfl⟩ rfl rfl (Nat.le_of_ble_eq_true rfl) ⟨Nat.zero_le _, Nat.zero_le _⟩ dX10_addLift_80 rfl ?_
                  exact am_iret F hr h dX10_addLift_83
              · have h := (if_neg c49).symm.trans h
                refine am_aload_n F 0 dX10_addLift_62 rfl rfl ?_
                refine am_iconst F (v := (2 : Int32)) dX10_addLift_63 (by decide) ?_
                obtain ⟨v48, M47, h46, h⟩ := am_bE h
                refine am_callVi F [.int (2 : Int32)] lyk_174 (by decide) rfl cw_X10_164 (c_X10_fails l D E z (2 : Int32) M32 v48 M47 h46) yn_X10_fails rfl ⟨Nat.le_of_ble_eq_true rfl, Nat.le_of_ble_eq_true rfl⟩ rfl rfl (Nat.le_of_ble_eq_true rfl) ⟨Nat.zero_le _, Nat.zero_le _⟩ dX10_addLift_64 rfl ?_
                exact am_iret F hr h dX10_addLift_67
    · have h := (if_pos c57).symm.trans h
      refine am_aload_n F 0 dX10_addLift_19 rfl rfl ?_
      refine am_iconst F (v := (1 : Int32)) dX10_addLift_20 (by decide) ?_
      obtain ⟨v56, M55, h54, h⟩ := am_bE h
      refine am_callVi F [.int (1 : Int32)] lyk_174 (by decide) rfl cw_X10_164 (c_X10_fails l D E z (1 : Int32) M8 v56 M55 h54) yn_X10_fails rfl ⟨Nat.le_of_ble_eq_true rfl, Nat.le_of_ble_eq_true rfl⟩ rfl rfl (Nat.le_of_ble_eq_true rfl) ⟨Nat.zero_le _, Nat.zero_le _⟩ dX10_addLift_21 rfl ?_
      exact am_iret F hr h dX10_addLift_24
/-! AisleSchedulerModel.addRobot(II)I -/
abbrev rm_X10_addRobot : Room := { frames := 6, cells := 0, slots := 0, locals := 140 }
theorem yn_X10_addRobot : am_yn yX10_addRobot 2 := ⟨⟨by decide +kernel, by decide +kernel⟩, by decide +kernel⟩
def g_X10_addRobot_L78 (a1 : Int32) (a2 : Int32) (a3 : Int32) : Nat → Int32 → am_M → Option ((Unit) × am_M)
  | 0, _, _ => none
  | n + 1, a4, M => (if (42 : Int32) ≤ a4 then (some ((), M)) else (am_b (g_X10_put a3 a4 (0 : Int32) M) (fun _ M22 => (g_X10_addRobot_L78 a1 a2 a3 n (a4 + (1 : Int32)) M22))))
set_option maxHeartbeats 4000000 in
set_option maxRecDepth 100000 in
theorem cl_X10_addRobot_L78 {l : Launch} {p : Program} {e : Env} {s : State} {m : MethodId} {args : Array Value} {below : List Frame} {meth : Method} {c : Code} {Q : State → Prop} {D : va_G} {E : Nat → ClassId} {z : Nat} (F : am_F p s m args meth c cX10_addRobot 5 RX10 D E z) (a1 : Int32) (a2 : Int32) (a3 : Int32) : ∀ (n : Nat) (a4 : Int32) (M : am_M) (x : Unit) (M1 : am_M), g_X10_addRobot_L78 a1 a2 a3 n a4 M = some (x, M1) → (am_W p l e rm_X10_addRobot s m args below meth c Q 5 D E z 0 0 M1 99 [(0, .ref (z + 174)), (1, .int a1), (2, .int a2), (3, .int a3)] []) → am_W p l e rm_X10_addRobot s m args below meth c Q 5 D E z 0 0 M 78 [(0, .ref (z + 174)), (1, .int a1), (2, .int a2), (3, .int a3), (4, .int a4)] [] := by
  intro n
  induction n with
  | zero => intro a4 M x M1 h K; cases h
  | succ n ih =>
    intro a4 M x M1 h K
    rw [g_X10_addRobot_L78] at h
    refine am_iload F 4 dX10_addRobot_78 rfl ?_
    refine am_bipush F (v := (42 : Int32)) dX10_addRobot_80 (by decide) ?_
    refine am_icmp_ge F (tgt := 99) dX10_addRobot_82 (by decide) (fun c23 => ?_) (fun c23 => ?_)
    · have h := (if_pos c23).symm.trans h
      cases h
      exact am_sub (lv' := [(0, .ref (z + 174)), (1, .int a1), (2, .int a2), (3, .int a3)]) [0, 1, 2, 3] rfl (K)
    · have h := (if_neg c23).symm.trans h
      refine am_aload_n F 0 dX10_addRobot_85 rfl rfl ?_
      refine am_iload_n F 3 dX10_addRobot_86 rfl rfl ?_
      refine am_iload F 4 dX10_addRobot_87 rfl ?_
      refine am_iconst F (v := (0 : Int32)) dX10_addRobot_89 (by decide) ?_
      obtain ⟨_, M22, h21, h⟩ := am_bE h
      refine am_callVv F [.int a3, .int a4, .int (0 : Int32)] lyk_174 (by decide) rfl cw_X10_145 (c_X10_put l D E z a3 a4 (0 : Int32) M M22 h21) yn_X10_put rfl ⟨Nat.le_of_ble_eq_true rfl, Nat.le_of_ble_eq_true rfl⟩ rfl rfl (Nat.le_of_ble_eq_true rfl) ⟨Nat.zero_le _, Nat.zero_le _⟩ dX10_addRobot_90 rfl ?_
      refine am_iinc F [(4, .int (a4 + (1 : Int32))), (0, .ref (z + 174)), (1, .int a1), (2, .int a2), (3, .int a3)] 4 dX10_addRobot_93 (by decide) rfl rfl rfl ?_
      refine am_goto F (tgt := 78) dX10_addRobot_96 (by decide) ?_
      exact am_sub (lv' := [(0, .ref (z + 174)), (1, .int a1), (2, .int a2), (3, .int a3), (4, .int (a4 + (1 : Int32)))]) [1, 2, 3, 4, 0] rfl (ih (a4 + (1 : Int32)) M22 _ _ h K)
def g_X10_addRobot (a1 : Int32) (a2 : Int32) (M : am_M) : Option (Int32 × am_M) := (am_b (g_X10_isCell a1 (am_s M 174 0 (0 : Int32))) (fun v3 M2 => (if v3 = (0 : Int32) then (am_b (g_X10_fails (1 : Int32) M2) (fun v47 M46 => (some (v47, M46)))) else (am_b (g_X10_in a2 (0 : Int32) (100 : Int32) M2) (fun v6 M5 => (if v6 = (0 : Int32) then (am_b (g_X10_fails (2 : Int32) M5) (fun v9 M8 => (some (v9, M8)))) else (am_b (g_X10_isWall a1 M5) (fun v12 M11 => (if v12 = (0 : Int32) then (am_ci (6 : Int32) 406 (if (am_g M11 175 (6 : Int32).toNatClampNeg) = (5 : Int32) then (am_b (g_X10_fails (3 : Int32) M11) (fun v16 M15 => (some (v16, M15)))) else (am_b (g_X10_isUsed a1 M11) (fun v19 M18 => (if v19 = (0 : Int32) then (am_ci (6 : Int32) 406 (am_b (g_X10_addRobot_L78 a1 a2 (am_g M18 175 (6 : Int32).toNatClampNeg) am_fu (0 : Int32) M18) (fun x24 M25 => (am_b (g_X10_put (am_g M18 175 (6 : Int32).toNatClampNeg) (0 : Int32) a1 M25) (fun _ M28 => (am_b (g_X10_put (am_g M18 175 (6 : Int32).toNatClampNeg) (1 : Int32) a2 M28) (fun _ M30 => (am_b (g_X10_put (am_g M18 175 (6 : Int32).toNatClampNeg) (4 : Int32) (-1 : Int32) M30) (fun _ M32 => (am_ci (6 : Int32) 406 (am_ci (6 : Int32) 406 (some ((am_g M18 175 (6 : Int32).toNatClampNeg), (am_s M32 175 (6 : Int32).toNatClampNeg ((am_g M32 175 (6 : Int32).toNatClampNeg) + (1 : Int32)))))))))))))))) else (am_b (g_X10_fails (3 : Int32) M18) (fun v37 M36 => (some (v37, M36))))))))) else (am_b (g_X10_fails (2 : Int32) M11) (fun v42 M41 => (some (v42, M41)))))))))))))
set_option maxHeartbeats 4000000 in
set_option maxRecDepth 100000 in
theorem c_X10_addRobot (l : Launch) (D : va_G) (E : Nat → ClassId) (z : Nat) (a1 : Int32) (a2 : Int32) (M : am_M) (r0 : Int32) (M1 : am_M) (h : g_X10_addRobot a1 a2 M = some (r0, M1)) : am_Mi l yX10_addRobot cX10_addRobot 5 (some .int) rm_X10_addRobot D E z [.ref (z + 174), .int a1, .int a2] M r0 M1 := by
  unfold g_X10_addRobot at h
  refine am_of (own := RX10) (by decide +kernel) rfl (by exact Nat.le_of_ble_eq_true rfl) ?_
  intro p e s m args below meth c F hr
  show am_W p l e rm_X10_addRobot s m args below meth c _ 5 D E z 0 0 M 0 [(0, .ref (z + 174)), (1, .int a1), (2, .int a2)] []
  refine am_aload_n F 0 dX10_addRobot_0 rfl rfl ?_
  refine am_iconst F (v := (0 : Int32)) dX10_addRobot_1 (by decide) ?_
  refine pf_X10_51 F lyk_174 dX10_addRobot_2 ?_
  refine am_iload_n F 1 dX10_addRobot_5 rfl rfl ?_
  obtain ⟨v3, M2, h1, h⟩ := am_bE h
  refine am_callSi F [.int a1] cw_X10_161 rfl (c_X10_isCell l D E z a1 (am_s M 174 0 (0 : Int32)) v3 M2 h1) yn_X10_isCell rfl ⟨Nat.le_of_ble_eq_true rfl, Nat.le_of_ble_eq_true rfl⟩ rfl rfl (Nat.le_of_ble_eq_true rfl) ⟨Nat.zero_le _, Nat.zero_le _⟩ dX10_addRobot_6 rfl ?_
  refine am_if_ne F (tgt := 18) dX10_addRobot_9 (by decide) (fun c48 => ?_) (fun c48 => ?_)
  · have h := (if_neg c48).symm.trans h
    refine am_iload_n F 2 dX10_addRobot_18 rfl rfl ?_
    refine am_iconst F (v := (0 : Int32)) dX10_addRobot_19 (by decide) ?_
    refine am_bipush F (v := (100 : Int32)) dX10_addRobot_20 (by decide) ?_
    obtain ⟨v6, M5, h4, h⟩ := am_bE h
    refine am_callSi F [.int a2, .int (0 : Int32), .int (100 : Int32)] cw_X10_54 rfl (c_X10_in l D E z a2 (0 : Int32) (100 : Int32) M2 v6 M5 h4) yn_X10_in rfl ⟨Nat.le_of_ble_eq_true rfl, Nat.le_of_ble_eq_true rfl⟩ rfl rfl (Nat.le_of_ble_eq_true rfl) ⟨Nat.zero_le _, Nat.zero_le _⟩ dX10_addRobot_22 rfl ?_
    refine am_if_eq F (tgt := 36) dX10_addRobot_25 (by decide) (fun c44 => ?_) (fun c44 => ?_)
    · have h := (if_pos c44).symm.trans h
      refine am_aload_n F 0 dX10_addRobot_36 rfl rfl ?_
      refine am_iconst F (v := (2 : Int32)) dX10_addRobot_37 (by decide) ?_
      obtain ⟨v9, M8, h7, h⟩ := am_bE h
      refine am_callVi F [.int (2 : Int32)] lyk_174 (by decide) rfl cw_X10_164 (c_X10_fails l D E z (2 : Int32) M5 v9 M8 h7) yn_X10_fails rfl ⟨Nat.le_of_ble_eq_true rfl, Nat.le_of_ble_eq_true rfl⟩ rfl rfl (Nat.le_of_ble_eq_true rfl) ⟨Nat.zero_le _, Nat.zero_le _⟩ dX10_addRobot_38 rfl ?_
      exact am_iret F hr h dX10_addRobot_41
    · have h := (if_neg c44).symm.trans h
      refine am_aload_n F 0 dX10_addRobot_28 rfl rfl ?_
      refine am_iload_n F 1 dX10_addRobot_29 rfl rfl ?_
      obtain ⟨v12, M11, h10, h⟩ := am_bE h
      refine am_callVi F [.int a1] lyk_174 (by decide) rfl cw_X10_79 (c_X10_isWall l D E z a1 M5 v12 M11 h10) yn_X10_isWall rfl ⟨Nat.le_of_ble_eq_true rfl, Nat.le_of_ble_eq_true rfl⟩ rfl rfl (Nat.le_of_ble_eq_true rfl) ⟨Nat.zero_le _, Nat.zero_le _⟩ dX10_addRobot_30 rfl ?_
      refine am_if_eq F (tgt := 42) dX10_addRobot_33 (by decide) (fun c43 => ?_) (fun c43 => ?_)
      · have h := (if_pos c43).symm.trans h
        refine am_aload_n F 0 dX10_addRobot_42 rfl rfl ?_
        refine gf_X10_7 F lyk_174 dX10_addRobot_43 ?_
        refine am_bipush F (v := (6 : Int32)) dX10_addRobot_46 (by decide) ?_
        obtain ⟨q13, h⟩ := am_ciE h
        refine am_iald F lyk_175 q13 dX10_addRobot_48 ?_
        refine am_iconst F (v := (5 : Int32)) dX10_addRobot_49 (by decide) ?_
        refine am_icmp_eq F (tgt := 61) dX10_addRobot_50 (by decide) (fun c39 => ?_) (fun c39 => ?_)
        · have h := (if_pos c39).symm.trans h
          refine am_aload_n F 0 dX10_addRobot_61 rfl rfl ?_
          refine am_iconst F (v := (3 : Int32)) dX10_addRobot_62 (by decide) ?_
          obtain ⟨v16, M15, h14, h⟩ := am_bE h
          refine am_callVi F [.int (3 : Int32)] lyk_174 (by decide) rfl cw_X10_164 (c_X10_fails l D E z (3 : Int32) M11 v16 M15 h14) yn_X10_fails rfl ⟨Nat.le_of_ble_eq_true rfl, Nat.le_of_ble_eq_true rfl⟩ rfl rfl (Nat.le_of_ble_eq_true rfl) ⟨Nat.zero_le _, Nat.zero_le _⟩ dX10_addRobot_63 rfl ?_
          exact am_iret F hr h dX10_addRobot_66
        · have h := (if_neg c39).symm.trans h
          refine am_aload_n F 0 dX10_addRobot_53 rfl rfl ?_
          refine am_iload_n F 1 dX10_addRobot_54 rfl rfl ?_
          obtain ⟨v19, M18, h17, h⟩ := am_bE h
          refine am_callVi F [.int a1] lyk_174 (by decide) rfl cw_X10_167 (c_X10_isUsed l D E z a1 M11 v19 M18 h17) yn_X10_isUsed rfl ⟨Nat.le_of_ble_eq_true rfl, Nat.le_of_ble_eq_true rfl⟩ rfl rfl (Nat.le_of_ble_eq_true rfl) ⟨Nat.zero_le _, Nat.zero_le _⟩ dX10_addRobot_55 rfl ?_
          refine am_if_eq F (tgt := 67) dX10_addRobot_58 (by decide) (fun c38 => ?_) (fun c38 => ?_)
          · have h := (if_pos c38).symm.trans h
            refine am_aload_n F 0 dX10_addRobot_67 rfl rfl ?_
            refine gf_X10_7 F lyk_174 dX10_addRobot_68 ?_
            refine am_bipush F (v := (6 : Int32)) dX10_addRobot_71 (by decide) ?_
            obtain ⟨q20, h⟩ := am_ciE h
            refine am_iald F lyk_175 q20 dX10_addRobot_73 ?_
            refine am_istore_n F [(3, .int (am_g M18 175 (6 : Int32).toNatClampNeg)), (0, .ref (z + 174)), (1, .int a1), (2, .int a2)] dX10_addRobot_74 rfl (by decide) rfl ?_
            refine am_iconst F (v := (0 : Int32)) dX10_addRobot_75 (by decide) ?_
            refine am_istore F [(4, .int (0 : Int32)), (3, .int (am_g M18 175 (6 : Int32).toNatClampNeg)), (0, .ref (z + 174)), (1, .int a1), (2, .int a2)] dX10_addRobot_76 (by decide) rfl ?_
            obtain ⟨x24, M25, h26, h⟩ := am_bE h
            refine am_sub (lv' := [(0, .ref (z + 174)), (1, .int a1), (2, .int a2), (3, .int (am_g M18 175 (6 : Int32).toNatClampNeg)), (4, .int (0 : Int32))]) [2, 3, 4, 1, 0] rfl (cl_X10_addRobot_L78 F a1 a2 (am_g M18 175 (6 : Int32).toNatClampNeg) am_fu (0 : Int32) M18 x24 M25 h26 ?_)
            refine am_aload_n F 0 dX10_addRobot_99 rfl rfl ?_
            refine am_iload_n F 3 dX10_addRobot_100 rfl rfl ?_
            refine am_iconst F (v := (0 : Int32)) dX10_addRobot_101 (by decide) ?_
            refine am_iload_n F 1 dX10_addRobot_102 rfl rfl ?_
            obtain ⟨_, M28, h27, h⟩ := am_bE h
            refine am_callVv F [.int (am_g M18 175 (6 : Int32).toNatClampNeg), .int (0 : Int32), .int a1] lyk_174 (by decide) rfl cw_X10_145 (c_X10_put l D E z (am_g M18 175 (6 : Int32).toNatClampNeg) (0 : Int32) a1 M25 M28 h27) yn_X10_put rfl ⟨Nat.le_of_ble_eq_true rfl, Nat.le_of_ble_eq_true rfl⟩ rfl rfl (Nat.le_of_ble_eq_true rfl) ⟨Nat.zero_le _, Nat.zero_le _⟩ dX10_addRobot_103 rfl ?_
            refine am_aload_n F 0 dX10_addRobot_106 rfl rfl ?_
            refine am_iload_n F 3 dX10_addRobot_107 rfl rfl ?_
            refine am_iconst F (v := (1 : Int32)) dX10_addRobot_108 (by decide) ?_
            refine am_iload_n F 2 dX10_addRobot_109 rfl rfl ?_
            obtain ⟨_, M30, h29, h⟩ := am_bE h
            refine am_callVv F [.int (am_g M18 175 (6 : Int32).toNatClampNeg), .int (1 : Int32), .int a2] lyk_174 (by decide) rfl cw_X10_145 (c_X10_put l D E z (am_g M18 175 (6 : Int32).toNatClampNeg) (1 : Int32) a2 M28 M30 h29) yn_X10_put rfl ⟨Nat.le_of_ble_eq_true rfl, Nat.le_of_ble_eq_true rfl⟩ rfl rfl (Nat.le_of_ble_eq_true rfl) ⟨Nat.zero_le _, Nat.zero_le _⟩ dX10_addRobot_110 rfl ?_
            refine am_aload_n F 0 dX10_addRobot_113 rfl rfl ?_
            refine am_iload_n F 3 dX10_addRobot_114 rfl rfl ?_
            refine am_iconst F (v := (4 : Int32)) dX10_addRobot_115 (by decide) ?_
            refine am_iconst F (v := (-1 : Int32)) dX10_addRobot_116 (by decide) ?_
            obtain ⟨_, M32, h31, h⟩ := am_bE h
            refine am_callVv F [.int (am_g M18 175 (6 : Int32).toNatClampNeg), .int (4 : Int32), .int (-1 : Int32)] lyk_174 (by decide) rfl cw_X10_145 (c_X10_put l D E z (am_g M18 175 (6 : Int32).toNatClampNeg) (4 : Int32) (-1 : Int32) M30 M32 h31) yn_X10_put rfl ⟨Nat.le_of_ble_eq_true rfl, Nat.le_of_ble_eq_true rfl⟩ rfl rfl (Nat.le_of_ble_eq_true rfl) ⟨Nat.zero_le _, Nat.zero_le _⟩ dX10_addRobot_117 rfl ?_
            refine am_aload_n F 0 dX10_addRobot_120 rfl rfl ?_
            refine gf_X10_7 F lyk_174 dX10_addRobot_121 ?_
            refine am_bipush F (v := (6 : Int32)) dX10_addRobot_124 (by decide) ?_
            refine am_dup2 F dX10_addRobot_126 rfl rfl ?_
            obtain ⟨q33, h⟩ := am_ciE h
            refine am_iald F lyk_175 q33 dX10_addRobot_127 ?_
            refine am_iconst F (v := (1 : Int32)) dX10_addRobot_128 (by decide) ?_
            refine am_iadd F dX10_addRobot_129 ?_
            obtain ⟨q34, h⟩ := am_ciE h
            refine am_iast F lyk_175 q34 dX10_addRobot_130 ?_
            refine am_iload_n F 3 dX10_addRobot_131 rfl rfl ?_
            exact am_iret F hr h dX10_addRobot_132
          · have h := (if_neg c38).symm.trans h
            refine am_aload_n F 0 dX10_addRobot_61 rfl rfl ?_
            refine am_iconst F (v := (3 : Int32)) dX10_addRobot_62 (by decide) ?_
            obtain ⟨v37, M36, h35, h⟩ := am_bE h
            refine am_callVi F [.int (3 : Int32)] lyk_174 (by decide) rfl cw_X10_164 (c_X10_fails l D E z (3 : Int32) M18 v37 M36 h35) yn_X10_fails rfl ⟨Nat.le_of_ble_eq_true rfl, Nat.le_of_ble_eq_true rfl⟩ rfl rfl (Nat.le_of_ble_eq_true rfl) ⟨Nat.zero_le _, Nat.zero_le _⟩ dX10_addRobot_63 rfl ?_
            exact am_iret F hr h dX10_addRobot_66
      · have h := (if_neg c43).symm.trans h
        refine am_aload_n F 0 dX10_addRobot_36 rfl rfl ?_
        refine am_iconst F (v := (2 : Int32)) dX10_addRobot_37 (by decide) ?_
        obtain ⟨v42, M41, h40, h⟩ := am_bE h
        refine am_callVi F [.int (2 : Int32)] lyk_174 (by decide) rfl cw_X10_164 (c_X10_fails l D E z (2 : Int32) M11 v42 M41 h40) yn_X10_fails rfl ⟨Nat.le_of_ble_eq_true rfl, Nat.le_of_ble_eq_true rfl⟩ rfl rfl (Nat.le_of_ble_eq_true rfl) ⟨Nat.zero_le _, Nat.zero_le _⟩ dX10_addRobot_38 rfl ?_
        exact am_iret F hr h dX10_addRobot_41
  · have h := (if_pos c48).symm.trans h
    refine am_aload_n F 0 dX10_addRobot_12 rfl rfl ?_
    refine am_iconst F (v := (1 : Int32)) dX10_addRobot_13 (by decide) ?_
    obtain ⟨v47, M46, h45, h⟩ := am_bE h
    refine am_callVi F [.int (1 : Int32)] lyk_174 (by decide) rfl cw_X10_164 (c_X10_fails l D E z (1 : Int32) M2 v47 M46 h45) yn_X10_fails rfl ⟨Nat.le_of_ble_eq_true rfl, Nat.le_of_ble_eq_true rfl⟩ rfl rfl (Nat.le_of_ble_eq_true rfl) ⟨Nat.zero_le _, Nat.zero_le _⟩ dX10_addRobot_14 rfl ?_
    exact am_iret F hr h dX10_addRobot_17
/-! AisleSchedulerModel.costLeft(I)I -/
abbrev rm_X10_costLeft : Room := { frames := 3, cells := 0, slots := 0, locals := 68 }
theorem yn_X10_costLeft : am_yn yX10_costLeft 1 := ⟨⟨by decide +kernel, by decide +kernel⟩, by decide +kernel⟩
def g_X10_costLeft_L16 (a1 : Int32) : Nat → Int32 → Int32 → am_M → Option ((Int32) × am_M)
  | 0, _, _, _ => none
  | n + 1, a2, a3, M => (am_b (g_X10_of a1 (2 : Int32) M) (fun v6 M5 => (if v6 ≤ a3 then (some (a2, M5)) else (am_b (g_X10_act a1 a3 M5) (fun v9 M8 => (am_b (g_X10_costs v9 M8) (fun v12 M11 => (g_X10_costLeft_L16 a1 n (a2 + v12) (a3 + (1 : Int32)) M11))))))))
set_option maxHeartbeats 4000000 in
set_option maxRecDepth 100000 in
theorem cl_X10_costLeft_L16 {l : Launch} {p : Program} {e : Env} {s : State} {m : MethodId} {args : Array Value} {below : List Frame} {meth : Method} {c : Code} {Q : State → Prop} {D : va_G} {E : Nat → ClassId} {z : Nat} (F : am_F p s m args meth c cX10_costLeft 4 RX10 D E z) (a1 : Int32) : ∀ (n : Nat) (a2 : Int32) (a3 : Int32) (M : am_M) (x : Int32) (M1 : am_M), g_X10_costLeft_L16 a1 n a2 a3 M = some (x, M1) → (am_W p l e rm_X10_costLeft s m args below meth c Q 4 D E z 0 0 M1 44 [(2, .int x)] []) → am_W p l e rm_X10_costLeft s m args below meth c Q 4 D E z 0 0 M 16 [(0, .ref (z + 174)), (1, .int a1), (2, .int a2), (3, .int a3)] [] := by
  intro n
  induction n with
  | zero => intro a2 a3 M x M1 h K; cases h
  | succ n ih =>
    intro a2 a3 M x M1 h K
    rw [g_X10_costLeft_L16] at h
    refine am_iload_n F 3 dX10_costLeft_16 rfl rfl ?_
    refine am_aload_n F 0 dX10_costLeft_17 rfl rfl ?_
    refine am_iload_n F 1 dX10_costLeft_18 rfl rfl ?_
    refine am_iconst F (v := (2 : Int32)) dX10_costLeft_19 (by decide) ?_
    obtain ⟨v6, M5, h4, h⟩ := am_bE h
    refine am_callVi F [.int a1, .int (2 : Int32)] lyk_174 (by decide) rfl cw_X10_58 (c_X10_of l D E z a1 (2 : Int32) M v6 M5 h4) yn_X10_of rfl ⟨Nat.le_of_ble_eq_true rfl, Nat.le_of_ble_eq_true rfl⟩ rfl rfl (Nat.le_of_ble_eq_true rfl) ⟨Nat.zero_le _, Nat.zero_le _⟩ dX10_costLeft_20 rfl ?_
    refine am_icmp_ge F (tgt := 44) dX10_costLeft_23 (by decide) (fun c13 => ?_) (fun c13 => ?_)
    · have h := (if_pos c13).symm.trans h
      cases h
      exact am_sub (lv' := [(2, .int a2)]) [2] rfl (K)
    · have h := (if_neg c13).symm.trans h
      refine am_iload_n F 2 dX10_costLeft_26 rfl rfl ?_
      refine am_aload_n F 0 dX10_costLeft_27 rfl rfl ?_
      refine am_iload_n F 1 dX10_costLeft_28 rfl rfl ?_
      refine am_iload_n F 3 dX10_costLeft_29 rfl rfl ?_
      obtain ⟨v9, M8, h7, h⟩ := am_bE h
      refine am_callVi F [.int a1, .int a3] lyk_174 (by decide) rfl cw_X10_65 (c_X10_act l D E z a1 a3 M5 v9 M8 h7) yn_X10_act rfl ⟨Nat.le_of_ble_eq_true rfl, Nat.le_of_ble_eq_true rfl⟩ rfl rfl (Nat.le_of_ble_eq_true rfl) ⟨Nat.zero_le _, Nat.zero_le _⟩ dX10_costLeft_30 rfl ?_
      obtain ⟨v12, M11, h10, h⟩ := am_bE h
      refine am_callSi F [.int v9] cw_X10_101 rfl (c_X10_costs l D E z v9 M8 v12 M11 h10) yn_X10_costs rfl ⟨Nat.le_of_ble_eq_true rfl, Nat.le_of_ble_eq_true rfl⟩ rfl rfl (Nat.le_of_ble_eq_true rfl) ⟨Nat.zero_le _, Nat.zero_le _⟩ dX10_costLeft_33 rfl ?_
      refine am_iadd F dX10_costLeft_36 ?_
      refine am_istore_n F [(2, .int (a2 + v12)), (0, .ref (z + 174)), (1, .int a1), (3, .int a3)] dX10_costLeft_37 rfl (by decide) rfl ?_
      refine am_iinc F [(3, .int (a3 + (1 : Int32))), (2, .int (a2 + v12)), (0, .ref (z + 174)), (1, .int a1)] 3 dX10_costLeft_38 (by decide) rfl rfl rfl ?_
      refine am_goto F (tgt := 16) dX10_costLeft_41 (by decide) ?_
      exact am_sub (lv' := [(0, .ref (z + 174)), (1, .int a1), (2, .int (a2 + v12)), (3, .int (a3 + (1 : Int32)))]) [2, 3, 1, 0] rfl (ih (a2 + v12) (a3 + (1 : Int32)) M11 _ _ h K)
def g_X10_costLeft (a1 : Int32) (M : am_M) : Option (Int32 × am_M) := (am_b (g_X10_isInLift a1 M) (fun v3 M2 => (if v3 = (0 : Int32) then (am_b (g_X10_costLeft_L16 a1 am_fu (0 : Int32) (0 : Int32) M2) (fun x14 M15 => (some (x14, M15)))) else (am_b (g_X10_costLeft_L16 a1 am_fu (0 : Int32) (1 : Int32) M2) (fun x17 M18 => (some (x17, M18)))))))
set_option maxHeartbeats 4000000 in
set_option maxRecDepth 100000 in
theorem c_X10_costLeft (l : Launch) (D : va_G) (E : Nat → ClassId) (z : Nat) (a1 : Int32) (M : am_M) (r0 : Int32) (M1 : am_M) (h : g_X10_costLeft a1 M = some (r0, M1)) : am_Mi l yX10_costLeft cX10_costLeft 4 (some .int) rm_X10_costLeft D E z [.ref (z + 174), .int a1] M r0 M1 := by
  unfold g_X10_costLeft at h
  refine am_of (own := RX10) (by decide +kernel) rfl (by exact Nat.le_of_ble_eq_true rfl) ?_
  intro p e s m args below meth c F hr
  show am_W p l e rm_X10_costLeft s m args below meth c _ 4 D E z 0 0 M 0 [(0, .ref (z + 174)), (1, .int a1)] []
  refine am_iconst F (v := (0 : Int32)) dX10_costLeft_0 (by decide) ?_
  refine am_istore_n F [(2, .int (0 : Int32)), (0, .ref (z + 174)), (1, .int a1)] dX10_costLeft_1 rfl (by decide) rfl ?_
  refine am_aload_n F 1 dX10_costLeft_2 rfl rfl ?_
  refine am_iload_n F 2 dX10_costLeft_3 rfl rfl ?_
  obtain ⟨v3, M2, h1, h⟩ := am_bE h
  refine am_callVi F [.int a1] lyk_174 (by decide) rfl cw_X10_151 (c_X10_isInLift l D E z a1 M v3 M2 h1) yn_X10_isInLift rfl ⟨Nat.le_of_ble_eq_true rfl, Nat.le_of_ble_eq_true rfl⟩ rfl rfl (Nat.le_of_ble_eq_true rfl) ⟨Nat.zero_le _, Nat.zero_le _⟩ dX10_costLeft_4 rfl ?_
  refine am_if_eq F (tgt := 14) dX10_costLeft_7 (by decide) (fun c20 => ?_) (fun c20 => ?_)
  · have h := (if_pos c20).symm.trans h
    refine am_iconst F (v := (0 : Int32)) dX10_costLeft_14 (by decide) ?_
    refine am_istore_n F [(3, .int (0 : Int32)), (2, .int (0 : Int32)), (0, .ref (z + 174)), (1, .int a1)] dX10_costLeft_15 rfl (by decide) rfl ?_
    obtain ⟨x14, M15, h16, h⟩ := am_bE h
    refine am_sub (lv' := [(0, .ref (z + 174)), (1, .int a1), (2, .int (0 : Int32)), (3, .int (0 : Int32))]) [2, 3, 1, 0] rfl (cl_X10_costLeft_L16 F a1 am_fu (0 : Int32) (0 : Int32) M2 x14 M15 h16 ?_)
    refine am_iload_n F 0 dX10_costLeft_44 rfl rfl ?_
    exact am_iret F hr h dX10_costLeft_45
  · have h := (if_neg c20).symm.trans h
    refine am_iconst F (v := (1 : Int32)) dX10_costLeft_10 (by decide) ?_
    refine am_goto F (tgt := 15) dX10_costLeft_11 (by decide) ?_
    refine am_istore_n F [(3, .int (1 : Int32)), (2, .int (0 : Int32)), (0, .ref (z + 174)), (1, .int a1)] dX10_costLeft_15 rfl (by decide) rfl ?_
    obtain ⟨x17, M18, h19, h⟩ := am_bE h
    refine am_sub (lv' := [(0, .ref (z + 174)), (1, .int a1), (2, .int (0 : Int32)), (3, .int (1 : Int32))]) [2, 3, 1, 0] rfl (cl_X10_costLeft_L16 F a1 am_fu (0 : Int32) (1 : Int32) M2 x17 M18 h19 ?_)
    refine am_iload_n F 0 dX10_costLeft_44 rfl rfl ?_
    exact am_iret F hr h dX10_costLeft_45
/-! AisleSchedulerModel.robot(II)I -/
abbrev rm_X10_robot : Room := { frames := 4, cells := 0, slots := 0, locals := 91 }
theorem yn_X10_robot : am_yn yX10_robot 2 := ⟨⟨by decide +kernel, by decide +kernel⟩, by decide +kernel⟩
def g_X10_robot (a1 : Int32) (a2 : Int32) (M : am_M) : Option (Int32 × am_M) := (am_b (g_X10_isRobot a1 (am_s M 174 0 (0 : Int32))) (fun v3 M2 => (if v3 = (0 : Int32) then (am_b (g_X10_fails (1 : Int32) M2) (fun v41 M40 => (some (v41, M40)))) else (if a2 = (0 : Int32) then (am_b (g_X10_isInLift a1 M2) (fun v7 M6 => (if v7 = (0 : Int32) then (am_b (g_X10_of a1 (0 : Int32) M6) (fun v10 M9 => (some (v10, M9)))) else (some ((-1 : Int32), M6))))) else (if a2 = (1 : Int32) then (am_b (g_X10_of a1 (1 : Int32) M2) (fun v15 M14 => (some (v15, M14)))) else (if a2 = (2 : Int32) then (am_b (g_X10_ticksLeft a1 M2) (fun v19 M18 => (some (v19, M18)))) else (if a2 = (3 : Int32) then (am_b (g_X10_costLeft a1 M2) (fun v23 M22 => (some (v23, M22)))) else (if a2 = (4 : Int32) then (am_b (g_X10_of a1 (4 : Int32) M2) (fun v27 M26 => (some (v27, M26)))) else (if a2 = (5 : Int32) then (am_b (g_X10_isInLift a1 M2) (fun v31 M30 => (if v31 = (0 : Int32) then (some ((-1 : Int32), M30)) else (am_b (g_X10_act a1 (0 : Int32) M30) (fun v34 M33 => (some ((v34 - (5 : Int32)), M33))))))) else (am_b (g_X10_fails (2 : Int32) M2) (fun v38 M37 => (some (v38, M37)))))))))))))
set_option maxHeartbeats 4000000 in
set_option maxRecDepth 100000 in
theorem c_X10_robot (l : Launch) (D : va_G) (E : Nat → ClassId) (z : Nat) (a1 : Int32) (a2 : Int32) (M : am_M) (r0 : Int32) (M1 : am_M) (h : g_X10_robot a1 a2 M = some (r0, M1)) : am_Mi l yX10_robot cX10_robot 3 (some .int) rm_X10_robot D E z [.ref (z + 174), .int a1, .int a2] M r0 M1 := by
  unfold g_X10_robot at h
  refine am_of (own := RX10) (by decide +kernel) rfl (by exact Nat.le_of_ble_eq_true rfl) ?_
  intro p e s m args below meth c F hr
  show am_W p l e rm_X10_robot s m args below meth c _ 3 D E z 0 0 M 0 [(0, .ref (z + 174)), (1, .int a1), (2, .int a2)] []
  refine am_aload_n F 0 dX10_robot_0 rfl rfl ?_
  refine am_iconst F (v := (0 : Int32)) dX10_robot_1 (by decide) ?_
  refine pf_X10_51 F lyk_174 dX10_robot_2 ?_
  refine am_aload_n F 0 dX10_robot_5 rfl rfl ?_
  refine am_iload_n F 1 dX10_robot_6 rfl rfl ?_
  obtain ⟨v3, M2, h1, h⟩ := am_bE h
  refine am_callVi F [.int a1] lyk_174 (by decide) rfl cw_X10_173 (c_X10_isRobot l D E z a1 (am_s M 174 0 (0 : Int32)) v3 M2 h1) yn_X10_isRobot rfl ⟨Nat.le_of_ble_eq_true rfl, Nat.le_of_ble_eq_true rfl⟩ rfl rfl (Nat.le_of_ble_eq_true rfl) ⟨Nat.zero_le _, Nat.zero_le _⟩ dX10_robot_7 rfl ?_
  refine am_if_ne F (tgt := 19) dX10_robot_10 (by decide) (fun c42 => ?_) (fun c42 => ?_)
  · have h := (if_neg c42).symm.trans h
    refine am_iload_n F 2 dX10_robot_19 rfl rfl ?_
    by_cases c4 : a2 = (0 : Int32)
    · have h := (if_pos c4).symm.trans h
      refine am_tabIn F 0 (tgt := 60) dX10_robot_20 (by rw [c4]; decide) rfl rfl (by decide) ?_
      refine am_aload_n F 0 dX10_robot_60 rfl rfl ?_
      refine am_iload_n F 1 dX10_robot_61 rfl rfl ?_
      obtain ⟨v7, M6, h5, h⟩ := am_bE h
      refine am_callVi F [.int a1] lyk_174 (by decide) rfl cw_X10_151 (c_X10_isInLift l D E z a1 M2 v7 M6 h5) yn_X10_isInLift rfl ⟨Nat.le_of_ble_eq_true rfl, Nat.le_of_ble_eq_true rfl⟩ rfl rfl (Nat.le_of_ble_eq_true rfl) ⟨Nat.zero_le _, Nat.zero_le _⟩ dX10_robot_62 rfl ?_
      refine am_if_eq F (tgt := 72) dX10_robot_65 (by decide) (fun c11 => ?_) (fun c11 => ?_)
      · have h := (if_pos c11).symm.trans h
        refine am_aload_n F 0 dX10_robot_72 rfl rfl ?_
        refine am_iload_n F 1 dX10_robot_73 rfl rfl ?_
        refine am_iconst F (v := (0 : Int32)) dX10_robot_74 (by decide) ?_
        obtain ⟨v10, M9, h8, h⟩ := am_bE h
        refine am_callVi F [.int a1, .int (0 : Int32)] lyk_174 (by decide) rfl cw_X10_58 (c_X10_of l D E z a1 (0 : Int32) M6 v10 M9 h8) yn_X10_of rfl ⟨Nat.le_of_ble_eq_true rfl, Nat.le_of_ble_eq_true rfl⟩ rfl rfl (Nat.le_of_ble_eq_true rfl) ⟨Nat.zero_le _, Nat.zero_le _⟩ dX10_robot_75 rfl ?_
        exact am_iret F hr h dX10_robot_78
      · have h := (if_neg c11).symm.trans h
        refine am_iconst F (v := (-1 : Int32)) dX10_robot_68 (by decide) ?_
        refine am_goto F (tgt := 78) dX10_robot_69 (by decide) ?_
        exact am_iret F hr h dX10_robot_78
    · have h := (if_neg c4).symm.trans h
      by_cases c12 : a2 = (1 : Int32)
      · have h := (if_pos c12).symm.trans h
        refine am_tabIn F 1 (tgt := 79) dX10_robot_20 (by rw [c12]; decide) rfl rfl (by decide) ?_
        refine am_aload_n F 0 dX10_robot_79 rfl rfl ?_
        refine am_iload_n F 1 dX10_robot_80 rfl rfl ?_
        refine am_iconst F (v := (1 : Int32)) dX10_robot_81 (by decide) ?_
        obtain ⟨v15, M14, h13, h⟩ := am_bE h
        refine am_callVi F [.int a1, .int (1 : Int32)] lyk_174 (by decide) rfl cw_X10_58 (c_X10_of l D E z a1 (1 : Int32) M2 v15 M14 h13) yn_X10_of rfl ⟨Nat.le_of_ble_eq_true rfl, Nat.le_of_ble_eq_true rfl⟩ rfl rfl (Nat.le_of_ble_eq_true rfl) ⟨Nat.zero_le _, Nat.zero_le _⟩ dX10_robot_82 rfl ?_
        exact am_iret F hr h dX10_robot_85
      · have h := (if_neg c12).symm.trans h
        by_cases c16 : a2 = (2 : Int32)
        · have h := (if_pos c16).symm.trans h
          refine am_tabIn F 2 (tgt := 86) dX10_robot_20 (by rw [c16]; decide) rfl rfl (by decide) ?_
          refine am_aload_n F 0 dX10_robot_86 rfl rfl ?_
          refine am_iload_n F 1 dX10_robot_87 rfl rfl ?_
          obtain ⟨v19, M18, h17, h⟩ := am_bE h
          refine am_callVi F [.int a1] lyk_174 (by decide) rfl cw_X10_176 (c_X10_ticksLeft l D E z a1 M2 v19 M18 h17) yn_X10_ticksLeft rfl ⟨Nat.le_of_ble_eq_true rfl, Nat.le_of_ble_eq_true rfl⟩ rfl rfl (Nat.le_of_ble_eq_true rfl) ⟨Nat.zero_le _, Nat.zero_le _⟩ dX10_robot_88 rfl ?_
          exact am_iret F hr h dX10_robot_91
        · have h := (if_neg c16).symm.trans h
          by_cases c20 : a2 = (3 : Int32)
          · have h := (if_pos c20).symm.trans h
            refine am_tabIn F 3 (tgt := 92) dX10_robot_20 (by rw [c20]; decide) rfl rfl (by decide) ?_
            refine am_aload_n F 0 dX10_robot_92 rfl rfl ?_
            refine am_iload_n F 1 dX10_robot_93 rfl rfl ?_
            obtain ⟨v23, M22, h21, h⟩ := am_bE h
            refine am_callVi F [.int a1] lyk_174 (by decide) rfl cw_X10_179 (c_X10_costLeft l D E z a1 M2 v23 M22 h21) yn_X10_costLeft rfl ⟨Nat.le_of_ble_eq_true rfl, Nat.le_of_ble_eq_true rfl⟩ rfl rfl (Nat.le_of_ble_eq_true rfl) ⟨Nat.zero_le _, Nat.zero_le _⟩ dX10_robot_94 rfl ?_
            exact am_iret F hr h dX10_robot_97
          · have h := (if_neg c20).symm.trans h
            by_cases c24 : a2 = (4 : Int32)
            · have h := (if_pos c24).symm.trans h
              refine am_tabIn F 4 (tgt := 98) dX10_robot_20 (by rw [c24]; decide) rfl rfl (by decide) ?_
              refine am_aload_n F 0 dX10_robot_98 rfl rfl ?_
              refine am_iload_n F 1 dX10_robot_99 rfl rfl ?_
              refine am_iconst F (v := (4 : Int32)) dX10_robot_100 (by decide) ?_
              obtain ⟨v27, M26, h25, h⟩ := am_bE h
              refine am_callVi F [.int a1, .int (4 : Int32)] lyk_174 (by decide) rfl cw_X10_58 (c_X10_of l D E z a1 (4 : Int32) M2 v27 M26 h25) yn_X10_of rfl ⟨Nat.le_of_ble_eq_true rfl, Nat.le_of_ble_eq_true rfl⟩ rfl rfl (Nat.le_of_ble_eq_true rfl) ⟨Nat.zero_le _, Nat.zero_le _⟩ dX10_robot_101 rfl ?_
              exact am_iret F hr h dX10_robot_104
            · have h := (if_neg c24).symm.trans h
              by_cases c28 : a2 = (5 : Int32)
              · have h := (if_pos c28).symm.trans h
                refine am_tabIn F 5 (tgt := 105) dX10_robot_20 (by rw [c28]; decide) rfl rfl (by decide) ?_
                refine am_aload_n F 0 dX10_robot_105 rfl rfl ?_
                refine am_iload_n F 1 dX10_robot_106 rfl rfl ?_
                obtain ⟨v31, M30, h29, h⟩ := am_bE h
                refine am_callVi F [.int a1] lyk_174 (by decide) rfl cw_X10_151 (c_X10_isInLift l D E z a1 M2 v31 M30 h29) yn_X10_isInLift rfl ⟨Nat.le_of_ble_eq_true rfl, Nat.le_of_ble_eq_true rfl⟩ rfl rfl (Nat.le_of_ble_eq_true rfl) ⟨Nat.zero_le _, Nat.zero_le _⟩ dX10_robot_107 rfl ?_
                refine am_if_eq F (tgt := 124) dX10_robot_110 (by decide) (fun c35 => ?_) (fun c35 => ?_)
                · have h := (if_pos c35).symm.trans h
                  refine am_iconst F (v := (-1 : Int32)) dX10_robot_124 (by decide) ?_
                  exact am_iret F hr h dX10_robot_125
                · have h := (if_neg c35).symm.trans h
                  refine am_aload_n F 0 dX10_robot_113 rfl rfl ?_
                  refine am_iload_n F 1 dX10_robot_114 rfl rfl ?_
                  refine am_iconst F (v := (0 : Int32)) dX10_robot_115 (by decide) ?_
                  obtain ⟨v34, M33, h32, h⟩ := am_bE h
                  refine am_callVi F [.int a1, .int (0 : Int32)] lyk_174 (by decide) rfl cw_X10_65 (c_X10_act l D E z a1 (0 : Int32) M30 v34 M33 h32) yn_X10_act rfl ⟨Nat.le_of_ble_eq_true rfl, Nat.le_of_ble_eq_true rfl⟩ rfl rfl (Nat.le_of_ble_eq_true rfl) ⟨Nat.zero_le _, Nat.zero_le _⟩ dX10_robot_116 rfl ?_
                  refine am_iconst F (v := (5 : Int32)) dX10_robot_119 (by decide) ?_
                  refine am_isub F dX10_robot_120 ?_
                  refine am_goto F (tgt := 125) dX10_robot_121 (by decide) ?_
                  exact am_iret F hr h dX10_robot_125
              · have h := (if_neg c28).symm.trans h
                have hsw := am_sw (x := a2) (lo := 0) (n := 6) (by decide) (by decide) (fun j hj => match j, hj with | 0, _ => c4 | 1, _ => c12 | 2, _ => c16 | 3, _ => c20 | 4, _ => c24 | 5, _ => c28)
                refine am_tabOut F (tgt := 126) dX10_robot_20 (hsw.imp_right (fun h9 => by omega)) (by decide) ?_
                refine am_aload_n F 0 dX10_robot_126 rfl rfl ?_
                refine am_iconst F (v := (2 : Int32)) dX10_robot_127 (by decide) ?_
                obtain ⟨v38, M37, h36, h⟩ := am_bE h
                refine am_callVi F [.int (2 : Int32)] lyk_174 (by decide) rfl cw_X10_164 (c_X10_fails l D E z (2 : Int32) M2 v38 M37 h36) yn_X10_fails rfl ⟨Nat.le_of_ble_eq_true rfl, Nat.le_of_ble_eq_true rfl⟩ rfl rfl (Nat.le_of_ble_eq_true rfl) ⟨Nat.zero_le _, Nat.zero_le _⟩ dX10_robot_128 rfl ?_
                exact am_iret F hr h dX10_robot_131
  · have h := (if_pos c42).symm.trans h
    refine am_aload_n F 0 dX10_robot_13 rfl rfl ?_
    refine am_iconst F (v := (1 : Int32)) dX10_robot_14 (by decide) ?_
    obtain ⟨v41, M40, h39, h⟩ := am_bE h
    refine am_callVi F [.int (1 : Int32)] lyk_174 (by decide) rfl cw_X10_164 (c_X10_fails l D E z (1 : Int32) M2 v41 M40 h39) yn_X10_fails rfl ⟨Nat.le_of_ble_eq_true rfl, Nat.le_of_ble_eq_true rfl⟩ rfl rfl (Nat.le_of_ble_eq_true rfl) ⟨Nat.zero_le _, Nat.zero_le _⟩ dX10_robot_15 rfl ?_
    exact am_iret F hr h dX10_robot_18
