/-! printed by wip/whole/drive.py -/
/-! AisleScheduler$Plan.addAction(II)V -/
abbrev rm_X2_addAction : Room := { frames := 2, cells := 0, slots := 0, locals := 46 }
theorem yn_X2_addAction : am_yn yX2_addAction 2 := ⟨⟨by decide +kernel, by decide +kernel⟩, by decide +kernel⟩
def g_X2_addAction_L20 (t0 : Nat) (a1 : Int32) (a2 : Int32) (a3 : Int32) : Nat → Int32 → am_M → Option ((Unit) × am_M)
  | 0, _, _ => none
  | n + 1, a4, M => (if a3 < a4 then (some ((), M)) else (am_b (g_X9_put (t0 + 1) 30 (am_g M t0 3) a1 M) (fun _ M5 => (if a4 = a3 then (am_b (g_X9_put (t0 + 2) 31 (am_g (am_s M5 t0 3 ((am_g M5 t0 3) + (1 : Int32))) t0 3) a2 (am_s M5 t0 3 ((am_g M5 t0 3) + (1 : Int32)))) (fun _ M9 => (g_X2_addAction_L20 t0 a1 a2 a3 n (a4 + (1 : Int32)) M9))) else (am_b (g_X9_put (t0 + 2) 31 (am_g (am_s M5 t0 3 ((am_g M5 t0 3) + (1 : Int32))) t0 3) ((-1 : Int32) - (a1 - (5 : Int32))) (am_s M5 t0 3 ((am_g M5 t0 3) + (1 : Int32)))) (fun _ M7 => (g_X2_addAction_L20 t0 a1 a2 a3 n (a4 + (1 : Int32)) M7)))))))
set_option maxHeartbeats 4000000 in
set_option maxRecDepth 100000 in
theorem cl_X2_addAction_L20 {l : Launch} {p : Program} {e : Env} {s : State} {m : MethodId} {args : Array Value} {below : List Frame} {meth : Method} {c : Code} {Q : State → Prop} {D : va_G} {E : Nat → ClassId} {z : Nat} (F : am_F p s m args meth c cX2_addAction 5 RX2 D E z) (t0 : Nat) (y0 : am_ly t0 = (2, 0)) (a1 : Int32) (a2 : Int32) (a3 : Int32) : ∀ (n : Nat) (a4 : Int32) (M : am_M) (x : Unit) (M1 : am_M), g_X2_addAction_L20 t0 a1 a2 a3 n a4 M = some (x, M1) → (am_W p l e rm_X2_addAction s m args below meth c Q 5 D E z 0 0 M1 80 [(0, .ref (z + t0)), (1, .int a1)] []) → am_W p l e rm_X2_addAction s m args below meth c Q 5 D E z 0 0 M 20 [(0, .ref (z + t0)), (1, .int a1), (2, .int a2), (3, .int a3), (4, .int a4)] [] := by
  intro n
  induction n with
  | zero => intro a4 M x M1 h K; cases h
  | succ n ih =>
    intro a4 M x M1 h K
    rw [g_X2_addAction_L20] at h
    refine am_iload F 4 dX2_addAction_20 rfl ?_
    refine am_iload_n F 3 dX2_addAction_22 rfl rfl ?_
    refine am_icmp_gt F (tgt := 80) dX2_addAction_23 (by decide) (fun c11 => ?_) (fun c11 => ?_)
    · have h := (if_pos c11).symm.trans h
      cases h
      exact am_sub (lv' := [(0, .ref (z + t0)), (1, .int a1)]) [0, 1] rfl (K)
    · have h := (if_neg c11).symm.trans h
      refine am_aload_n F 0 dX2_addAction_26 rfl rfl ?_
      refine gf_X2_9 F y0 dX2_addAction_27 ?_
      refine am_aload_n F 0 dX2_addAction_30 rfl rfl ?_
      refine gf_X2_26 F y0 dX2_addAction_31 ?_
      refine am_iload_n F 1 dX2_addAction_34 rfl rfl ?_
      obtain ⟨_, M5, h4, h⟩ := am_bE h
      refine am_callSNv F [.ref (z + (t0 + 1)), .int (am_g M t0 3), .int a1] cw_X2_18  (c_X9_put l D E z (t0 + 1) 30 (lyf_2_actions y0) (am_g M t0 3) a1 M M5 h4) yn_X9_put rfl ⟨Nat.le_of_ble_eq_true rfl, Nat.le_of_ble_eq_true rfl⟩ rfl rfl (Nat.le_of_ble_eq_true rfl) ⟨Nat.zero_le _, Nat.zero_le _⟩ dX2_addAction_35 rfl ?_
      refine am_aload_n F 0 dX2_addAction_38 rfl rfl ?_
      refine am_dup F dX2_addAction_39 rfl ?_
      refine gf_X2_26 F y0 dX2_addAction_40 ?_
      refine am_iconst F (v := (1 : Int32)) dX2_addAction_43 (by decide) ?_
      refine am_iadd F dX2_addAction_44 ?_
      refine pf_X2_26 F y0 dX2_addAction_45 ?_
      refine am_aload_n F 0 dX2_addAction_48 rfl rfl ?_
      refine gf_X2_15 F y0 dX2_addAction_49 ?_
      refine am_aload_n F 0 dX2_addAction_52 rfl rfl ?_
      refine gf_X2_26 F y0 dX2_addAction_53 ?_
      refine am_iload F 4 dX2_addAction_56 rfl ?_
      refine am_iload_n F 3 dX2_addAction_58 rfl rfl ?_
      refine am_icmp_ne F (tgt := 66) dX2_addAction_59 (by decide) (fun c10 => ?_) (fun c10 => ?_)
      · have h := (if_neg c10).symm.trans h
        refine am_iconst F (v := (-1 : Int32)) dX2_addAction_66 (by decide) ?_
        refine am_iload_n F 1 dX2_addAction_67 rfl rfl ?_
        refine am_iconst F (v := (5 : Int32)) dX2_addAction_68 (by decide) ?_
        refine am_isub F dX2_addAction_69 ?_
        refine am_isub F dX2_addAction_70 ?_
        obtain ⟨_, M7, h6, h⟩ := am_bE h
        refine am_callSNv F [.ref (z + (t0 + 2)), .int (am_g (am_s M5 t0 3 ((am_g M5 t0 3) + (1 : Int32))) t0 3), .int ((-1 : Int32) - (a1 - (5 : Int32)))] cw_X2_18  (c_X9_put l D E z (t0 + 2) 31 (lyf_2_places y0) (am_g (am_s M5 t0 3 ((am_g M5 t0 3) + (1 : Int32))) t0 3) ((-1 : Int32) - (a1 - (5 : Int32))) (am_s M5 t0 3 ((am_g M5 t0 3) + (1 : Int32))) M7 h6) yn_X9_put rfl ⟨Nat.le_of_ble_eq_true rfl, Nat.le_of_ble_eq_true rfl⟩ rfl rfl (Nat.le_of_ble_eq_true rfl) ⟨Nat.zero_le _, Nat.zero_le _⟩ dX2_addAction_71 rfl ?_
        refine am_iinc F [(4, .int (a4 + (1 : Int32))), (0, .ref (z + t0)), (1, .int a1), (2, .int a2), (3, .int a3)] 4 dX2_addAction_74 (by decide) rfl rfl rfl ?_
        refine am_goto F (tgt := 20) dX2_addAction_77 (by decide) ?_
        exact am_sub (lv' := [(0, .ref (z + t0)), (1, .int a1), (2, .int a2), (3, .int a3), (4, .int (a4 + (1 : Int32)))]) [1, 2, 3, 4, 0] rfl (ih (a4 + (1 : Int32)) M7 _ _ h K)
      · have h := (if_pos c10).symm.trans h
        refine am_iload_n F 2 dX2_addAction_62 rfl rfl ?_
        refine am_goto F (tgt := 71) dX2_addAction_63 (by decide) ?_
        obtain ⟨_, M9, h8, h⟩ := am_bE h
        refine am_callSNv F [.ref (z + (t0 + 2)), .int (am_g (am_s M5 t0 3 ((am_g M5 t0 3) + (1 : Int32))) t0 3), .int a2] cw_X2_18  (c_X9_put l D E z (t0 + 2) 31 (lyf_2_places y0) (am_g (am_s M5 t0 3 ((am_g M5 t0 3) + (1 : Int32))) t0 3) a2 (am_s M5 t0 3 ((am_g M5 t0 3) + (1 : Int32))) M9 h8) yn_X9_put rfl ⟨Nat.le_of_ble_eq_true rfl, Nat.le_of_ble_eq_true rfl⟩ rfl rfl (Nat.le_of_ble_eq_true rfl) ⟨Nat.zero_le _, Nat.zero_le _⟩ dX2_addAction_71 rfl ?_
        refine am_iinc F [(4, .int (a4 + (1 : Int32))), (0, .ref (z + t0)), (1, .int a1), (2, .int a2), (3, .int a3)] 4 dX2_addAction_74 (by decide) rfl rfl rfl ?_
        refine am_goto F (tgt := 20) dX2_addAction_77 (by decide) ?_
        exact am_sub (lv' := [(0, .ref (z + t0)), (1, .int a1), (2, .int a2), (3, .int a3), (4, .int (a4 + (1 : Int32)))]) [1, 2, 3, 4, 0] rfl (ih (a4 + (1 : Int32)) M9 _ _ h K)
def g_X2_addAction (t0 : Nat) (a1 : Int32) (a2 : Int32) (M : am_M) : Option (Unit × am_M) := (am_b (g_X9_ticksOf a1 M) (fun v3 M2 => (if ((am_g M2 t0 3) + v3) ≤ (30 : Int32) then (am_b (g_X2_addAction_L20 t0 a1 a2 v3 am_fu (1 : Int32) M2) (fun x12 M13 => (am_b (g_X9_costOf a1 M13) (fun v17 M16 => (some ((), (am_s M16 t0 4 ((am_g M13 t0 4) + v17)))))))) else (some ((), M2)))))
set_option maxHeartbeats 4000000 in
set_option maxRecDepth 100000 in
theorem c_X2_addAction (l : Launch) (D : va_G) (E : Nat → ClassId) (z : Nat) (t0 : Nat) (y0 : am_ly t0 = (2, 0)) (a1 : Int32) (a2 : Int32) (M : am_M)  (M1 : am_M) (h : g_X2_addAction t0 a1 a2 M = some ((), M1)) : am_Mv l yX2_addAction cX2_addAction 5 none rm_X2_addAction D E z [.ref (z + t0), .int a1, .int a2] M M1 := by
  unfold g_X2_addAction at h
  refine am_of (own := RX2) (by decide +kernel) rfl (by exact Nat.le_of_ble_eq_true rfl) ?_
  intro p e s m args below meth c F hr
  show am_W p l e rm_X2_addAction s m args below meth c _ 5 D E z 0 0 M 0 [(0, .ref (z + t0)), (1, .int a1), (2, .int a2)] []
  refine am_iload_n F 1 dX2_addAction_0 rfl rfl ?_
  obtain ⟨v3, M2, h1, h⟩ := am_bE h
  refine am_callSNi F [.int a1] cw_X2_36  (c_X9_ticksOf l D E z a1 M v3 M2 h1) yn_X9_ticksOf rfl ⟨Nat.le_of_ble_eq_true rfl, Nat.le_of_ble_eq_true rfl⟩ rfl rfl (Nat.le_of_ble_eq_true rfl) ⟨Nat.zero_le _, Nat.zero_le _⟩ dX2_addAction_1 rfl ?_
  refine am_istore_n F [(3, .int v3), (0, .ref (z + t0)), (1, .int a1), (2, .int a2)] dX2_addAction_4 rfl (by decide) rfl ?_
  refine am_aload_n F 1 dX2_addAction_5 rfl rfl ?_
  refine gf_X2_26 F y0 dX2_addAction_6 ?_
  refine am_iload_n F 0 dX2_addAction_9 rfl rfl ?_
  refine am_iadd F dX2_addAction_10 ?_
  refine am_bipush F (v := (30 : Int32)) dX2_addAction_11 (by decide) ?_
  refine am_icmp_le F (tgt := 17) dX2_addAction_13 (by decide) (fun c18 => ?_) (fun c18 => ?_)
  · have h := (if_pos c18).symm.trans h
    refine am_iconst F (v := (1 : Int32)) dX2_addAction_17 (by decide) ?_
    refine am_istore F [(4, .int (1 : Int32)), (3, .int v3), (0, .ref (z + t0)), (1, .int a1), (2, .int a2)] dX2_addAction_18 (by decide) rfl ?_
    obtain ⟨x12, M13, h14, h⟩ := am_bE h
    refine am_sub (lv' := [(0, .ref (z + t0)), (1, .int a1), (2, .int a2), (3, .int v3), (4, .int (1 : Int32))]) [2, 3, 4, 1, 0] rfl (cl_X2_addAction_L20 F t0 y0 a1 a2 v3 am_fu (1 : Int32) M2 x12 M13 h14 ?_)
    refine am_aload_n F 0 dX2_addAction_80 rfl rfl ?_
    refine am_dup F dX2_addAction_81 rfl ?_
    refine gf_X2_29 F y0 dX2_addAction_82 ?_
    refine am_iload_n F 1 dX2_addAction_85 rfl rfl ?_
    obtain ⟨v17, M16, h15, h⟩ := am_bE h
    refine am_callSNi F [.int a1] cw_X2_40  (c_X9_costOf l D E z a1 M13 v17 M16 h15) yn_X9_costOf rfl ⟨Nat.le_of_ble_eq_true rfl, Nat.le_of_ble_eq_true rfl⟩ rfl rfl (Nat.le_of_ble_eq_true rfl) ⟨Nat.zero_le _, Nat.zero_le _⟩ dX2_addAction_86 rfl ?_
    refine am_iadd F dX2_addAction_89 ?_
    refine pf_X2_29 F y0 dX2_addAction_90 ?_
    exact am_vret F hr h dX2_addAction_93
  · have h := (if_neg c18).symm.trans h
    exact am_vret F hr h dX2_addAction_16
/-! AisleScheduler$Finder.walk(LAisleScheduler$Plan;I)V -/
abbrev rm_X0_walk : Room := { frames := 3, cells := 0, slots := 0, locals := 72 }
theorem yn_X0_walk : am_yn yX0_walk 2 := ⟨⟨by decide +kernel, by decide +kernel⟩, by decide +kernel⟩
def g_X0_walk_L48 (t1 : Nat) (a2 : Int32) (a3 : Int32) (a4 : Int32) (a5 : Int32) (a7 : Int32) : Nat → Int32 → am_M → Option ((Int32) × am_M)
  | 0, _, _ => none
  | n + 1, a6, M => (if (6 : Int32) ≤ a6 then (some (a6, M)) else (am_b (g_X0_costThrough a4 a5 a6 a2 M) (fun v9 M8 => (if v9 ≤ a7 then (some (a6, M8)) else (g_X0_walk_L48 t1 a2 a3 a4 a5 a7 n (a6 + (1 : Int32)) M8)))))
set_option maxHeartbeats 4000000 in
set_option maxRecDepth 100000 in
theorem cl_X0_walk_L48 {l : Launch} {p : Program} {e : Env} {s : State} {m : MethodId} {args : Array Value} {below : List Frame} {meth : Method} {c : Code} {Q : State → Prop} {D : va_G} {E : Nat → ClassId} {z : Nat} (F : am_F p s m args meth c cX0_walk 8 RX0 D E z) (t1 : Nat) (y1 : am_ly t1 = (2, 0)) (a2 : Int32) (a3 : Int32) (a4 : Int32) (a5 : Int32) (a7 : Int32) : ∀ (n : Nat) (a6 : Int32) (M : am_M) (x : Int32) (M1 : am_M), g_X0_walk_L48 t1 a2 a3 a4 a5 a7 n a6 M = some (x, M1) → (am_W p l e rm_X0_walk s m args below meth c Q 8 D E z 0 0 M1 77 [(0, .ref (z + 161)), (1, .ref (z + t1)), (2, .int a2), (3, .int a3), (5, .int a5), (6, .int x)] []) → am_W p l e rm_X0_walk s m args below meth c Q 8 D E z 0 0 M 48 [(0, .ref (z + 161)), (1, .ref (z + t1)), (2, .int a2), (3, .int a3), (4, .int a4), (5, .int a5), (6, .int a6), (7, .int a7)] [] := by
  intro n
  induction n with
  | zero => intro a6 M x M1 h K; cases h
  | succ n ih =>
    intro a6 M x M1 h K
    rw [g_X0_walk_L48] at h
    refine am_iload F 6 dX0_walk_48 rfl ?_
    refine am_bipush F (v := (6 : Int32)) dX0_walk_50 (by decide) ?_
    refine am_icmp_ge F (tgt := 77) dX0_walk_52 (by decide) (fun c11 => ?_) (fun c11 => ?_)
    · have h := (if_pos c11).symm.trans h
      cases h
      exact am_sub (lv' := [(0, .ref (z + 161)), (1, .ref (z + t1)), (2, .int a2), (3, .int a3), (5, .int a5), (6, .int a6)]) [0, 1, 2, 3, 5, 6] rfl (K)
    · have h := (if_neg c11).symm.trans h
      refine am_aload_n F 0 dX0_walk_55 rfl rfl ?_
      refine am_iload F 4 dX0_walk_56 rfl ?_
      refine am_iload F 5 dX0_walk_58 rfl ?_
      refine am_iload F 6 dX0_walk_60 rfl ?_
      refine am_iload_n F 2 dX0_walk_62 rfl rfl ?_
      obtain ⟨v9, M8, h7, h⟩ := am_bE h
      refine am_callVi F [.int a4, .int a5, .int a6, .int a2] lyk_161 (by decide) rfl cw_X0_144 (c_X0_costThrough l D E z a4 a5 a6 a2 M v9 M8 h7) yn_X0_costThrough rfl ⟨Nat.le_of_ble_eq_true rfl, Nat.le_of_ble_eq_true rfl⟩ rfl rfl (Nat.le_of_ble_eq_true rfl) ⟨Nat.zero_le _, Nat.zero_le _⟩ dX0_walk_63 rfl ?_
      refine am_iload F 7 dX0_walk_66 rfl ?_
      refine am_icmp_le F (tgt := 77) dX0_walk_68 (by decide) (fun c10 => ?_) (fun c10 => ?_)
      · have h := (if_pos c10).symm.trans h
        cases h
        exact am_sub (lv' := [(0, .ref (z + 161)), (1, .ref (z + t1)), (2, .int a2), (3, .int a3), (5, .int a5), (6, .int a6)]) [0, 1, 2, 3, 5, 6] rfl (K)
      · have h := (if_neg c10).symm.trans h
        refine am_iinc F [(6, .int (a6 + (1 : Int32))), (0, .ref (z + 161)), (1, .ref (z + t1)), (2, .int a2), (3, .int a3), (4, .int a4), (5, .int a5), (7, .int a7)] 6 dX0_walk_71 (by decide) rfl rfl rfl ?_
        refine am_goto F (tgt := 48) dX0_walk_74 (by decide) ?_
        exact am_sub (lv' := [(0, .ref (z + 161)), (1, .ref (z + t1)), (2, .int a2), (3, .int a3), (4, .int a4), (5, .int a5), (6, .int (a6 + (1 : Int32))), (7, .int a7)]) [1, 2, 3, 4, 5, 6, 0, 7] rfl (ih (a6 + (1 : Int32)) M8 _ _ h K)
def g_X0_walk_J77 (rc : Int32 → am_M → Option ((Unit) × am_M)) (t1 : Nat) (a2 : Int32) (a3 : Int32) (a5 : Int32) (a6 : Int32) (M : am_M) : Option ((Unit) × am_M) := (am_b (g_X9_at (2 + 2) 280 ((a5 * (7 : Int32)) + a6) M) (fun v17 M16 => (am_b (g_X2_addAction t1 a6 v17 M16) (fun _ M19 => (rc (a3 + (1 : Int32)) M19)))))
set_option maxHeartbeats 4000000 in
set_option maxRecDepth 100000 in
theorem cj_X0_walk_J77 {l : Launch} {p : Program} {e : Env} {s : State} {m : MethodId} {args : Array Value} {below : List Frame} {meth : Method} {c : Code} {Q : State → Prop} {D : va_G} {E : Nat → ClassId} {z : Nat} (F : am_F p s m args meth c cX0_walk 8 RX0 D E z) (rc : Int32 → am_M → Option ((Unit) × am_M)) (t1 : Nat) (y1 : am_ly t1 = (2, 0)) (a2 : Int32) (a3 : Int32) (a5 : Int32) (a6 : Int32) (M : am_M) (x : Unit) (M1 : am_M) (h : g_X0_walk_J77 rc t1 a2 a3 a5 a6 M = some (x, M1)) (HR : ∀ (b3 : Int32) (M2 : am_M), rc b3 M2 = some (x, M1) → am_W p l e rm_X0_walk s m args below meth c Q 8 D E z 0 0 M2 2 [(0, .ref (z + 161)), (1, .ref (z + t1)), (2, .int a2), (3, .int b3)] []) (K : am_W p l e rm_X0_walk s m args below meth c Q 8 D E z 0 0 M1 107 [] []) : am_W p l e rm_X0_walk s m args below meth c Q 8 D E z 0 0 M 77 [(0, .ref (z + 161)), (1, .ref (z + t1)), (2, .int a2), (3, .int a3), (5, .int a5), (6, .int a6)] [] := by
  unfold g_X0_walk_J77 at h
  refine am_aload_n F 1 dX0_walk_77 rfl rfl ?_
  refine am_iload F 5 dX0_walk_78 rfl ?_
  refine am_aload_n F 0 dX0_walk_80 rfl rfl ?_
  refine gf_X0_25 F lyk_161 dX0_walk_81 ?_
  refine gf_X0_151 F lyk_2 dX0_walk_84 ?_
  refine am_iload F 4 dX0_walk_87 rfl ?_
  refine am_bipush F (v := (7 : Int32)) dX0_walk_89 (by decide) ?_
  refine am_imul F dX0_walk_91 ?_
  refine am_iload F 5 dX0_walk_92 rfl ?_
  refine am_iadd F dX0_walk_94 ?_
  obtain ⟨v17, M16, h15, h⟩ := am_bE h
  refine am_callSNi F [.ref (z + (2 + 2)), .int ((a5 * (7 : Int32)) + a6)] cw_X0_135  (c_X9_at l D E z (2 + 2) 280 (lyf_1_links lyk_2) ((a5 * (7 : Int32)) + a6) M v17 M16 h15) yn_X9_at rfl ⟨Nat.le_of_ble_eq_true rfl, Nat.le_of_ble_eq_true rfl⟩ rfl rfl (Nat.le_of_ble_eq_true rfl) ⟨Nat.zero_le _, Nat.zero_le _⟩ dX0_walk_95 rfl ?_
  obtain ⟨_, M19, h18, h⟩ := am_bE h
  refine am_callVv F [.int a6, .int v17] y1 (by decide) rfl cw_X0_160 (c_X2_addAction l D E z t1 y1 a6 v17 M16 M19 h18) yn_X2_addAction rfl ⟨Nat.le_of_ble_eq_true rfl, Nat.le_of_ble_eq_true rfl⟩ rfl rfl (Nat.le_of_ble_eq_true rfl) ⟨Nat.zero_le _, Nat.zero_le _⟩ dX0_walk_98 rfl ?_
  refine am_iinc F [(3, .int (a3 + (1 : Int32))), (0, .ref (z + 161)), (1, .ref (z + t1)), (2, .int a2), (5, .int a5), (6, .int a6)] 3 dX0_walk_101 (by decide) rfl rfl rfl ?_
  refine am_goto F (tgt := 2) dX0_walk_104 (by decide) ?_
  exact am_sub (lv' := [(0, .ref (z + 161)), (1, .ref (z + t1)), (2, .int a2), (3, .int (a3 + (1 : Int32)))]) [1, 2, 3, 0] rfl (HR (a3 + (1 : Int32)) M19 h)
def g_X0_walk_L2 (t1 : Nat) (a2 : Int32) : Nat → Int32 → am_M → Option ((Unit) × am_M)
  | 0, _, _ => none
  | n + 1, a3, M => (if (30 : Int32) ≤ a3 then (some ((), M)) else (if a2 ≤ (am_g M t1 3) then (some ((), M)) else (am_b (g_X2_lastPlace t1 M) (fun v3 M2 => (am_b (g_X9_at 165 1240 (((am_g M t1 3) * (40 : Int32)) + v3) M2) (fun v6 M5 => (am_b (g_X0_walk_L48 t1 a2 a3 (am_g M t1 3) v3 v6 am_fu (0 : Int32) M5) (fun x12 M13 => (g_X0_walk_J77 (g_X0_walk_L2 t1 a2 n) t1 a2 a3 v3 x12 M13)))))))))
set_option maxHeartbeats 4000000 in
set_option maxRecDepth 100000 in
theorem cl_X0_walk_L2 {l : Launch} {p : Program} {e : Env} {s : State} {m : MethodId} {args : Array Value} {below : List Frame} {meth : Method} {c : Code} {Q : State → Prop} {D : va_G} {E : Nat → ClassId} {z : Nat} (F : am_F p s m args meth c cX0_walk 8 RX0 D E z) (t1 : Nat) (y1 : am_ly t1 = (2, 0)) (a2 : Int32) : ∀ (n : Nat) (a3 : Int32) (M : am_M) (x : Unit) (M1 : am_M), g_X0_walk_L2 t1 a2 n a3 M = some (x, M1) → (am_W p l e rm_X0_walk s m args below meth c Q 8 D E z 0 0 M1 107 [] []) → am_W p l e rm_X0_walk s m args below meth c Q 8 D E z 0 0 M 2 [(0, .ref (z + 161)), (1, .ref (z + t1)), (2, .int a2), (3, .int a3)] [] := by
  intro n
  induction n with
  | zero => intro a3 M x M1 h K; cases h
  | succ n ih =>
    intro a3 M x M1 h K
    rw [g_X0_walk_L2] at h
    refine am_iload_n F 3 dX0_walk_2 rfl rfl ?_
    refine am_bipush F (v := (30 : Int32)) dX0_walk_3 (by decide) ?_
    refine am_icmp_ge F (tgt := 107) dX0_walk_5 (by decide) (fun c21 => ?_) (fun c21 => ?_)
    · have h := (if_pos c21).symm.trans h
      cases h
      exact am_sub (lv' := []) [] rfl (K)
    · have h := (if_neg c21).symm.trans h
      refine am_aload_n F 1 dX0_walk_8 rfl rfl ?_
      refine gf_X0_98 F y1 dX0_walk_9 ?_
      refine am_iload_n F 2 dX0_walk_12 rfl rfl ?_
      refine am_icmp_ge F (tgt := 107) dX0_walk_13 (by decide) (fun c20 => ?_) (fun c20 => ?_)
      · have h := (if_pos c20).symm.trans h
        cases h
        exact am_sub (lv' := []) [] rfl (K)
      · have h := (if_neg c20).symm.trans h
        refine am_aload_n F 1 dX0_walk_16 rfl rfl ?_
        refine gf_X0_98 F y1 dX0_walk_17 ?_
        refine am_istore F [(4, .int (am_g M t1 3)), (0, .ref (z + 161)), (1, .ref (z + t1)), (2, .int a2), (3, .int a3)] dX0_walk_20 (by decide) rfl ?_
        refine am_aload_n F 2 dX0_walk_22 rfl rfl ?_
        obtain ⟨v3, M2, h1, h⟩ := am_bE h
        refine am_callVi F [] y1 (by decide) rfl cw_X0_112 (c_X2_lastPlace l D E z t1 y1 M v3 M2 h1) yn_X2_lastPlace rfl ⟨Nat.le_of_ble_eq_true rfl, Nat.le_of_ble_eq_true rfl⟩ rfl rfl (Nat.le_of_ble_eq_true rfl) ⟨Nat.zero_le _, Nat.zero_le _⟩ dX0_walk_23 rfl ?_
        refine am_istore F [(5, .int v3), (4, .int (am_g M t1 3)), (0, .ref (z + 161)), (1, .ref (z + t1)), (2, .int a2), (3, .int a3)] dX0_walk_26 (by decide) rfl ?_
        refine am_iconst F (v := (0 : Int32)) dX0_walk_28 (by decide) ?_
        refine am_istore F [(6, .int (0 : Int32)), (5, .int v3), (4, .int (am_g M t1 3)), (0, .ref (z + 161)), (1, .ref (z + t1)), (2, .int a2), (3, .int a3)] dX0_walk_29 (by decide) rfl ?_
        refine am_aload_n F 3 dX0_walk_31 rfl rfl ?_
        refine gf_X0_21 F lyk_161 dX0_walk_32 ?_
        refine am_iload F 2 dX0_walk_35 rfl ?_
        refine am_bipush F (v := (40 : Int32)) dX0_walk_37 (by decide) ?_
        refine am_imul F dX0_walk_39 ?_
        refine am_iload F 1 dX0_walk_40 rfl ?_
        refine am_iadd F dX0_walk_42 ?_
        obtain ⟨v6, M5, h4, h⟩ := am_bE h
        refine am_callSNi F [.ref (z + 165), .int (((am_g M t1 3) * (40 : Int32)) + v3)] cw_X0_135  (c_X9_at l D E z 165 1240 lyk_165 (((am_g M t1 3) * (40 : Int32)) + v3) M2 v6 M5 h4) yn_X9_at rfl ⟨Nat.le_of_ble_eq_true rfl, Nat.le_of_ble_eq_true rfl⟩ rfl rfl (Nat.le_of_ble_eq_true rfl) ⟨Nat.zero_le _, Nat.zero_le _⟩ dX0_walk_43 rfl ?_
        refine am_istore F [(7, .int v6), (6, .int (0 : Int32)), (5, .int v3), (4, .int (am_g M t1 3)), (0, .ref (z + 161)), (1, .ref (z + t1)), (2, .int a2), (3, .int a3)] dX0_walk_46 (by decide) rfl ?_
        obtain ⟨x12, M13, h14, h⟩ := am_bE h
        refine am_sub (lv' := [(0, .ref (z + 161)), (1, .ref (z + t1)), (2, .int a2), (3, .int a3), (4, .int (am_g M t1 3)), (5, .int v3), (6, .int (0 : Int32)), (7, .int v6)]) [4, 5, 6, 7, 3, 2, 1, 0] rfl (cl_X0_walk_L48 F t1 y1 a2 a3 (am_g M t1 3) v3 v6 am_fu (0 : Int32) M5 x12 M13 h14 ?_)
        exact am_sub (lv' := [(0, .ref (z + 161)), (1, .ref (z + t1)), (2, .int a2), (3, .int a3), (5, .int v3), (6, .int x12)]) [0, 1, 2, 3, 4, 5] rfl (cj_X0_walk_J77 F (g_X0_walk_L2 t1 a2 n) t1 y1 a2 a3 v3 x12 M13 _ _ h (fun b3 M2 h2 => ih b3 M2 _ _ h2 K) K)
def g_X0_walk (t1 : Nat) (a2 : Int32) (M : am_M) : Option (Unit × am_M) := (am_b (g_X0_walk_L2 t1 a2 am_fu (0 : Int32) M) (fun x22 M23 => (some ((), M23))))
set_option maxHeartbeats 4000000 in
set_option maxRecDepth 100000 in
theorem c_X0_walk (l : Launch) (D : va_G) (E : Nat → ClassId) (z : Nat) (t1 : Nat) (y1 : am_ly t1 = (2, 0)) (a2 : Int32) (M : am_M)  (M1 : am_M) (h : g_X0_walk t1 a2 M = some ((), M1)) : am_Mv l yX0_walk cX0_walk 8 none rm_X0_walk D E z [.ref (z + 161), .ref (z + t1), .int a2] M M1 := by
  unfold g_X0_walk at h
  refine am_of (own := RX0) (by decide +kernel) rfl (by exact Nat.le_of_ble_eq_true rfl) ?_
  intro p e s m args below meth c F hr
  show am_W p l e rm_X0_walk s m args below meth c _ 8 D E z 0 0 M 0 [(0, .ref (z + 161)), (1, .ref (z + t1)), (2, .int a2)] []
  refine am_iconst F (v := (0 : Int32)) dX0_walk_0 (by decide) ?_
  refine am_istore_n F [(3, .int (0 : Int32)), (0, .ref (z + 161)), (1, .ref (z + t1)), (2, .int a2)] dX0_walk_1 rfl (by decide) rfl ?_
  obtain ⟨x22, M23, h24, h⟩ := am_bE h
  refine am_sub (lv' := [(0, .ref (z + 161)), (1, .ref (z + t1)), (2, .int a2), (3, .int (0 : Int32))]) [1, 2, 3, 0] rfl (cl_X0_walk_L2 F t1 y1 a2 am_fu (0 : Int32) M x22 M23 h24 ?_)
  exact am_vret F hr h dX0_walk_107
/-! AisleScheduler$Finder.extend(LAisleScheduler$Plan;IZ)Z -/
abbrev rm_X0_extend : Room := { frames := 4, cells := 0, slots := 0, locals := 108 }
theorem yn_X0_extend : am_yn yX0_extend 3 := ⟨⟨by decide +kernel, by decide +kernel⟩, by decide +kernel⟩
def g_X0_extend (t1 : Nat) (a2 : Int32) (a3 : Int32) (M : am_M) : Option (Int32 × am_M) := (am_b (g_X0_endOf t1 a2 a3 M) (fun v3 M2 => (if (0 : Int32) ≤ v3 then (am_b (g_X0_countCosts a2 (am_g M t1 3) v3 M2) (fun _ M5 => (am_b (g_X0_walk t1 v3 M5) (fun _ M7 => (some ((1 : Int32), M7)))))) else (some ((0 : Int32), M2)))))
set_option maxHeartbeats 4000000 in
set_option maxRecDepth 100000 in
theorem c_X0_extend (l : Launch) (D : va_G) (E : Nat → ClassId) (z : Nat) (t1 : Nat) (y1 : am_ly t1 = (2, 0)) (a2 : Int32) (a3 : Int32) (M : am_M) (r0 : Int32) (M1 : am_M) (h : g_X0_extend t1 a2 a3 M = some (r0, M1)) : am_Mi l yX0_extend cX0_extend 6 (some .boolean) rm_X0_extend D E z [.ref (z + 161), .ref (z + t1), .int a2, .int a3] M r0 M1 := by
  unfold g_X0_extend at h
  refine am_of (own := RX0) (by decide +kernel) rfl (by exact Nat.le_of_ble_eq_true rfl) ?_
  intro p e s m args below meth c F hr
  show am_W p l e rm_X0_extend s m args below meth c _ 6 D E z 0 0 M 0 [(0, .ref (z + 161)), (1, .ref (z + t1)), (2, .int a2), (3, .int a3)] []
  refine am_aload_n F 1 dX0_extend_0 rfl rfl ?_
  refine gf_X0_98 F y1 dX0_extend_1 ?_
  refine am_istore F [(4, .int (am_g M t1 3)), (0, .ref (z + 161)), (1, .ref (z + t1)), (2, .int a2), (3, .int a3)] dX0_extend_4 (by decide) rfl ?_
  refine am_aload_n F 1 dX0_extend_6 rfl rfl ?_
  refine am_aload_n F 2 dX0_extend_7 rfl rfl ?_
  refine am_iload_n F 3 dX0_extend_8 rfl rfl ?_
  refine am_iload_n F 4 dX0_extend_9 rfl rfl ?_
  obtain ⟨v3, M2, h1, h⟩ := am_bE h
  refine am_callVi F [.ref (z + t1), .int a2, .int a3] lyk_161 (by decide) rfl cw_X0_101 (c_X0_endOf l D E z t1 y1 a2 a3 M v3 M2 h1) yn_X0_endOf rfl ⟨Nat.le_of_ble_eq_true rfl, Nat.le_of_ble_eq_true rfl⟩ rfl rfl (Nat.le_of_ble_eq_true rfl) ⟨Nat.zero_le _, Nat.zero_le _⟩ dX0_extend_10 rfl ?_
  refine am_istore F [(5, .int v3), (4, .int (am_g M t1 3)), (0, .ref (z + 161)), (1, .ref (z + t1)), (2, .int a2), (3, .int a3)] dX0_extend_13 (by decide) rfl ?_
  refine am_iload F 0 dX0_extend_15 rfl ?_
  refine am_if_ge F (tgt := 22) dX0_extend_17 (by decide) (fun c8 => ?_) (fun c8 => ?_)
  · have h := (if_pos c8).symm.trans h
    refine am_aload_n F 2 dX0_extend_22 rfl rfl ?_
    refine am_iload_n F 4 dX0_extend_23 rfl rfl ?_
    refine am_iload F 1 dX0_extend_24 rfl ?_
    refine am_iload F 0 dX0_extend_26 rfl ?_
    obtain ⟨_, M5, h4, h⟩ := am_bE h
    refine am_callVv F [.int a2, .int (am_g M t1 3), .int v3] lyk_161 (by decide) rfl cw_X0_105 (c_X0_countCosts l D E z a2 (am_g M t1 3) v3 M2 M5 h4) yn_X0_countCosts rfl ⟨Nat.le_of_ble_eq_true rfl, Nat.le_of_ble_eq_true rfl⟩ rfl rfl (Nat.le_of_ble_eq_true rfl) ⟨Nat.zero_le _, Nat.zero_le _⟩ dX0_extend_28 rfl ?_
    refine am_aload_n F 2 dX0_extend_31 rfl rfl ?_
    refine am_aload_n F 3 dX0_extend_32 rfl rfl ?_
    refine am_iload F 0 dX0_extend_33 rfl ?_
    obtain ⟨_, M7, h6, h⟩ := am_bE h
    refine am_callVv F [.ref (z + t1), .int v3] lyk_161 (by decide) rfl cw_X0_109 (c_X0_walk l D E z t1 y1 v3 M5 M7 h6) yn_X0_walk rfl ⟨Nat.le_of_ble_eq_true rfl, Nat.le_of_ble_eq_true rfl⟩ rfl rfl (Nat.le_of_ble_eq_true rfl) ⟨Nat.zero_le _, Nat.zero_le _⟩ dX0_extend_35 rfl ?_
    refine am_iconst F (v := (1 : Int32)) dX0_extend_38 (by decide) ?_
    exact am_zret F hr (by decide) h dX0_extend_39
  · have h := (if_neg c8).symm.trans h
    refine am_iconst F (v := (0 : Int32)) dX0_extend_20 (by decide) ?_
    exact am_zret F hr (by decide) h dX0_extend_21
/-! AisleScheduler.fill([II)V -/
abbrev rm_X9_fill : Room := { frames := 1, cells := 0, slots := 0, locals := 24 }
theorem yn_X9_fill : am_yn yX9_fill 2 := ⟨⟨by decide +kernel, by decide +kernel⟩, by decide +kernel⟩
def g_X9_fill_L2 (t0 n0 : Nat) (a1 : Int32) : Nat → Int32 → am_M → Option ((Unit) × am_M)
  | 0, _, _ => none
  | n + 1, a2, M => (if (Int32.ofNat n0) ≤ a2 then (some ((), M)) else (am_ci a2 n0 (g_X9_fill_L2 t0 n0 a1 n (a2 + (1 : Int32)) (am_s M t0 a2.toNatClampNeg a1))))
set_option maxHeartbeats 4000000 in
set_option maxRecDepth 100000 in
theorem cl_X9_fill_L2 {l : Launch} {p : Program} {e : Env} {s : State} {m : MethodId} {args : Array Value} {below : List Frame} {meth : Method} {c : Code} {Q : State → Prop} {D : va_G} {E : Nat → ClassId} {z : Nat} (F : am_F p s m args meth c cX9_fill 3 RX9 D E z) (t0 n0 : Nat) (y0 : am_ly t0 = (20, n0)) (a1 : Int32) : ∀ (n : Nat) (a2 : Int32) (M : am_M) (x : Unit) (M1 : am_M), g_X9_fill_L2 t0 n0 a1 n a2 M = some (x, M1) → (am_W p l e rm_X9_fill s m args below meth c Q 3 D E z 0 0 M1 18 [] []) → am_W p l e rm_X9_fill s m args below meth c Q 3 D E z 0 0 M 2 [(0, .ref (z + t0)), (1, .int a1), (2, .int a2)] [] := by
  intro n
  induction n with
  | zero => intro a2 M x M1 h K; cases h
  | succ n ih =>
    intro a2 M x M1 h K
    rw [g_X9_fill_L2] at h
    refine am_iload_n F 2 dX9_fill_2 rfl rfl ?_
    refine am_aload_n F 0 dX9_fill_3 rfl rfl ?_
    refine am_alen F y0 (by decide) (by decide) (t0 := 0) rfl (v := (Int32.ofNat n0)) rfl dX9_fill_4 ?_
    refine am_icmp_ge F (tgt := 18) dX9_fill_5 (by decide) (fun c2 => ?_) (fun c2 => ?_)
    · have h := (if_pos c2).symm.trans h
      cases h
      exact am_sub (lv' := []) [] rfl (K)
    · have h := (if_neg c2).symm.trans h
      refine am_aload_n F 0 dX9_fill_8 rfl rfl ?_
      refine am_iload_n F 2 dX9_fill_9 rfl rfl ?_
      refine am_iload_n F 1 dX9_fill_10 rfl rfl ?_
      obtain ⟨q1, h⟩ := am_ciE h
      refine am_iast F y0 q1 dX9_fill_11 ?_
      refine am_iinc F [(2, .int (a2 + (1 : Int32))), (0, .ref (z + t0)), (1, .int a1)] 2 dX9_fill_12 (by decide) rfl rfl rfl ?_
      refine am_goto F (tgt := 2) dX9_fill_15 (by decide) ?_
      exact am_sub (lv' := [(0, .ref (z + t0)), (1, .int a1), (2, .int (a2 + (1 : Int32)))]) [1, 2, 0] rfl (ih (a2 + (1 : Int32)) (am_s M t0 a2.toNatClampNeg a1) _ _ h K)
def g_X9_fill (t0 n0 : Nat) (a1 : Int32) (M : am_M) : Option (Unit × am_M) := (am_b (g_X9_fill_L2 t0 n0 a1 am_fu (0 : Int32) M) (fun x3 M4 => (some ((), M4))))
set_option maxHeartbeats 4000000 in
set_option maxRecDepth 100000 in
theorem c_X9_fill (l : Launch) (D : va_G) (E : Nat → ClassId) (z : Nat) (t0 n0 : Nat) (y0 : am_ly t0 = (20, n0)) (a1 : Int32) (M : am_M)  (M1 : am_M) (h : g_X9_fill t0 n0 a1 M = some ((), M1)) : am_Mv l yX9_fill cX9_fill 3 none rm_X9_fill D E z [.ref (z + t0), .int a1] M M1 := by
  unfold g_X9_fill at h
  refine am_of (own := RX9) (by decide +kernel) rfl (by exact Nat.le_of_ble_eq_true rfl) ?_
  intro p e s m args below meth c F hr
  show am_W p l e rm_X9_fill s m args below meth c _ 3 D E z 0 0 M 0 [(0, .ref (z + t0)), (1, .int a1)] []
  refine am_iconst F (v := (0 : Int32)) dX9_fill_0 (by decide) ?_
  refine am_istore_n F [(2, .int (0 : Int32)), (0, .ref (z + t0)), (1, .int a1)] dX9_fill_1 rfl (by decide) rfl ?_
  obtain ⟨x3, M4, h5, h⟩ := am_bE h
  refine am_sub (lv' := [(0, .ref (z + t0)), (1, .int a1), (2, .int (0 : Int32))]) [1, 2, 0] rfl (cl_X9_fill_L2 F t0 n0 y0 a1 am_fu (0 : Int32) M x3 M4 h5 ?_)
  exact am_vret F hr h dX9_fill_18
/-! AisleScheduler.neighbor(II)I -/
abbrev rm_X9_neighbor : Room := { frames := 1, cells := 0, slots := 0, locals := 24 }
theorem yn_X9_neighbor : am_yn yX9_neighbor 2 := ⟨⟨by decide +kernel, by decide +kernel⟩, by decide +kernel⟩
def g_X9_neighbor (a0 : Int32) (a1 : Int32) (M : am_M) : Option (Int32 × am_M) := (if a1 = (1 : Int32) then (if (a0 - (8 : Int32)) < (0 : Int32) then (some ((-1 : Int32), M)) else (some ((a0 - (8 : Int32)), M))) else (if a1 = (2 : Int32) then (if (7 : Int32) ≤ (a0 - a0 / (8 : Int32) * (8 : Int32)) then (some ((-1 : Int32), M)) else (some ((a0 + (1 : Int32)), M))) else (if a1 = (3 : Int32) then (if (40 : Int32) ≤ (a0 + (8 : Int32)) then (some ((-1 : Int32), M)) else (some ((a0 + (8 : Int32)), M))) else (if a1 = (4 : Int32) then (if (a0 - a0 / (8 : Int32) * (8 : Int32)) ≤ (0 : Int32) then (some ((-1 : Int32), M)) else (some ((a0 - (1 : Int32)), M))) else (some ((-1 : Int32), M))))))
set_option maxHeartbeats 4000000 in
set_option maxRecDepth 100000 in
theorem c_X9_neighbor (l : Launch) (D : va_G) (E : Nat → ClassId) (z : Nat) (a0 : Int32) (a1 : Int32) (M : am_M) (r0 : Int32) (M1 : am_M) (h : g_X9_neighbor a0 a1 M = some (r0, M1)) : am_Mi l yX9_neighbor cX9_neighbor 3 (some .int) rm_X9_neighbor D E z [.int a0, .int a1] M r0 M1 := by
  unfold g_X9_neighbor at h
  refine am_of (own := RX9) (by decide +kernel) rfl (by exact Nat.le_of_ble_eq_true rfl) ?_
  intro p e s m args below meth c F hr
  show am_W p l e rm_X9_neighbor s m args below meth c _ 3 D E z 0 0 M 0 [(0, .int a0), (1, .int a1)] []
  refine am_iload_n F 0 dX9_neighbor_0 rfl rfl ?_
  refine am_bipush F (v := (8 : Int32)) dX9_neighbor_1 (by decide) ?_
  refine am_irem F dX9_neighbor_3 (by decide) ?_
  refine am_istore_n F [(2, .int (a0 - a0 / (8 : Int32) * (8 : Int32))), (0, .int a0), (1, .int a1)] dX9_neighbor_4 rfl (by decide) rfl ?_
  refine am_iload_n F 2 dX9_neighbor_5 rfl rfl ?_
  by_cases c1 : a1 = (1 : Int32)
  · have h := (if_pos c1).symm.trans h
    refine am_tabIn F 1 (tgt := 36) dX9_neighbor_6 (by rw [c1]; decide) rfl rfl (by decide) ?_
    refine am_iload_n F 1 dX9_neighbor_36 rfl rfl ?_
    refine am_bipush F (v := (8 : Int32)) dX9_neighbor_37 (by decide) ?_
    refine am_isub F dX9_neighbor_39 ?_
    refine am_if_lt F (tgt := 50) dX9_neighbor_40 (by decide) (fun c2 => ?_) (fun c2 => ?_)
    · have h := (if_pos c2).symm.trans h
      refine am_iconst F (v := (-1 : Int32)) dX9_neighbor_50 (by decide) ?_
      exact am_iret F hr h dX9_neighbor_51
    · have h := (if_neg c2).symm.trans h
      refine am_iload_n F 1 dX9_neighbor_43 rfl rfl ?_
      refine am_bipush F (v := (8 : Int32)) dX9_neighbor_44 (by decide) ?_
      refine am_isub F dX9_neighbor_46 ?_
      refine am_goto F (tgt := 51) dX9_neighbor_47 (by decide) ?_
      exact am_iret F hr h dX9_neighbor_51
  · have h := (if_neg c1).symm.trans h
    by_cases c3 : a1 = (2 : Int32)
    · have h := (if_pos c3).symm.trans h
      refine am_tabIn F 2 (tgt := 52) dX9_neighbor_6 (by rw [c3]; decide) rfl rfl (by decide) ?_
      refine am_iload_n F 0 dX9_neighbor_52 rfl rfl ?_
      refine am_bipush F (v := (7 : Int32)) dX9_neighbor_53 (by decide) ?_
      refine am_icmp_ge F (tgt := 64) dX9_neighbor_55 (by decide) (fun c4 => ?_) (fun c4 => ?_)
      · have h := (if_pos c4).symm.trans h
        refine am_iconst F (v := (-1 : Int32)) dX9_neighbor_64 (by decide) ?_
        exact am_iret F hr h dX9_neighbor_65
      · have h := (if_neg c4).symm.trans h
        refine am_iload_n F 1 dX9_neighbor_58 rfl rfl ?_
        refine am_iconst F (v := (1 : Int32)) dX9_neighbor_59 (by decide) ?_
        refine am_iadd F dX9_neighbor_60 ?_
        refine am_goto F (tgt := 65) dX9_neighbor_61 (by decide) ?_
        exact am_iret F hr h dX9_neighbor_65
    · have h := (if_neg c3).symm.trans h
      by_cases c5 : a1 = (3 : Int32)
      · have h := (if_pos c5).symm.trans h
        refine am_tabIn F 3 (tgt := 66) dX9_neighbor_6 (by rw [c5]; decide) rfl rfl (by decide) ?_
        refine am_iload_n F 1 dX9_neighbor_66 rfl rfl ?_
        refine am_bipush F (v := (8 : Int32)) dX9_neighbor_67 (by decide) ?_
        refine am_iadd F dX9_neighbor_69 ?_
        refine am_bipush F (v := (40 : Int32)) dX9_neighbor_70 (by decide) ?_
        refine am_icmp_ge F (tgt := 82) dX9_neighbor_72 (by decide) (fun c6 => ?_) (fun c6 => ?_)
        · have h := (if_pos c6).symm.trans h
          refine am_iconst F (v := (-1 : Int32)) dX9_neighbor_82 (by decide) ?_
          exact am_iret F hr h dX9_neighbor_83
        · have h := (if_neg c6).symm.trans h
          refine am_iload_n F 1 dX9_neighbor_75 rfl rfl ?_
          refine am_bipush F (v := (8 : Int32)) dX9_neighbor_76 (by decide) ?_
          refine am_iadd F dX9_neighbor_78 ?_
          refine am_goto F (tgt := 83) dX9_neighbor_79 (by decide) ?_
          exact am_iret F hr h dX9_neighbor_83
      · have h := (if_neg c5).symm.trans h
        by_cases c7 : a1 = (4 : Int32)
        · have h := (if_pos c7).symm.trans h
          refine am_tabIn F 4 (tgt := 84) dX9_neighbor_6 (by rw [c7]; decide) rfl rfl (by decide) ?_
          refine am_iload_n F 0 dX9_neighbor_84 rfl rfl ?_
          refine am_if_le F (tgt := 94) dX9_neighbor_85 (by decide) (fun c8 => ?_) (fun c8 => ?_)
          · have h := (if_pos c8).symm.trans h
            refine am_iconst F (v := (-1 : Int32)) dX9_neighbor_94 (by decide) ?_
            exact am_iret F hr h dX9_neighbor_95
          · have h := (if_neg c8).symm.trans h
            refine am_iload_n F 1 dX9_neighbor_88 rfl rfl ?_
            refine am_iconst F (v := (1 : Int32)) dX9_neighbor_89 (by decide) ?_
            refine am_isub F dX9_neighbor_90 ?_
            refine am_goto F (tgt := 95) dX9_neighbor_91 (by decide) ?_
            exact am_iret F hr h dX9_neighbor_95
        · have h := (if_neg c7).symm.trans h
          have hsw := am_sw (x := a1) (lo := 1) (n := 4) (by decide) (by decide) (fun j hj => match j, hj with | 0, _ => c1 | 1, _ => c3 | 2, _ => c5 | 3, _ => c7)
          refine am_tabOut F (tgt := 96) dX9_neighbor_6 (hsw.imp_right (fun h9 => by omega)) (by decide) ?_
          refine am_iconst F (v := (-1 : Int32)) dX9_neighbor_96 (by decide) ?_
          exact am_iret F hr h dX9_neighbor_97
/-! AisleScheduler$Floor.empty()V -/
abbrev rm_X1_empty : Room := { frames := 2, cells := 0, slots := 0, locals := 46 }
theorem yn_X1_empty : am_yn yX1_empty 0 := ⟨⟨by decide +kernel, by decide +kernel⟩, by decide +kernel⟩
def g_X1_empty_L31 (t0 : Nat) (a1 : Int32) : Nat → Int32 → am_M → Option ((Unit) × am_M)
  | 0, _, _ => none
  | n + 1, a2, M => (if (7 : Int32) ≤ a2 then (some ((), M)) else (if a2 = (0 : Int32) then (am_b (g_X9_put (t0 + 2) 280 ((a1 * (7 : Int32)) + a2) a1 M) (fun _ M11 => (g_X1_empty_L31 t0 a1 n (a2 + (1 : Int32)) M11))) else (am_b (g_X9_neighbor a1 a2 M) (fun v7 M6 => (am_b (g_X9_put (t0 + 2) 280 ((a1 * (7 : Int32)) + a2) v7 M6) (fun _ M9 => (g_X1_empty_L31 t0 a1 n (a2 + (1 : Int32)) M9)))))))
set_option maxHeartbeats 4000000 in
set_option maxRecDepth 100000 in
theorem cl_X1_empty_L31 {l : Launch} {p : Program} {e : Env} {s : State} {m : MethodId} {args : Array Value} {below : List Frame} {meth : Method} {c : Code} {Q : State → Prop} {D : va_G} {E : Nat → ClassId} {z : Nat} (F : am_F p s m args meth c cX1_empty 3 RX1 D E z) (t0 : Nat) (y0 : am_ly t0 = (1, 0)) (a1 : Int32) : ∀ (n : Nat) (a2 : Int32) (M : am_M) (x : Unit) (M1 : am_M), g_X1_empty_L31 t0 a1 n a2 M = some (x, M1) → (am_W p l e rm_X1_empty s m args below meth c Q 3 D E z 0 0 M1 69 [(0, .ref (z + t0)), (1, .int a1)] []) → am_W p l e rm_X1_empty s m args below meth c Q 3 D E z 0 0 M 31 [(0, .ref (z + t0)), (1, .int a1), (2, .int a2)] [] := by
  intro n
  induction n with
  | zero => intro a2 M x M1 h K; cases h
  | succ n ih =>
    intro a2 M x M1 h K
    rw [g_X1_empty_L31] at h
    refine am_iload_n F 2 dX1_empty_31 rfl rfl ?_
    refine am_bipush F (v := (7 : Int32)) dX1_empty_32 (by decide) ?_
    refine am_icmp_ge F (tgt := 69) dX1_empty_34 (by decide) (fun c13 => ?_) (fun c13 => ?_)
    · have h := (if_pos c13).symm.trans h
      cases h
      exact am_sub (lv' := [(0, .ref (z + t0)), (1, .int a1)]) [0, 1] rfl (K)
    · have h := (if_neg c13).symm.trans h
      refine am_aload_n F 0 dX1_empty_37 rfl rfl ?_
      refine gf_X1_15 F y0 dX1_empty_38 ?_
      refine am_iload_n F 1 dX1_empty_41 rfl rfl ?_
      refine am_bipush F (v := (7 : Int32)) dX1_empty_42 (by decide) ?_
      refine am_imul F dX1_empty_44 ?_
      refine am_iload_n F 2 dX1_empty_45 rfl rfl ?_
      refine am_iadd F dX1_empty_46 ?_
      refine am_iload_n F 2 dX1_empty_47 rfl rfl ?_
      refine am_if_ne F (tgt := 55) dX1_empty_48 (by decide) (fun c12 => ?_) (fun c12 => ?_)
      · have h := (if_neg c12).symm.trans h
        refine am_iload_n F 1 dX1_empty_55 rfl rfl ?_
        refine am_iload_n F 2 dX1_empty_56 rfl rfl ?_
        obtain ⟨v7, M6, h5, h⟩ := am_bE h
        refine am_callSNi F [.int a1, .int a2] cw_X1_35  (c_X9_neighbor l D E z a1 a2 M v7 M6 h5) yn_X9_neighbor rfl ⟨Nat.le_of_ble_eq_true rfl, Nat.le_of_ble_eq_true rfl⟩ rfl rfl (Nat.le_of_ble_eq_true rfl) ⟨Nat.zero_le _, Nat.zero_le _⟩ dX1_empty_57 rfl ?_
        obtain ⟨_, M9, h8, h⟩ := am_bE h
        refine am_callSNv F [.ref (z + (t0 + 2)), .int ((a1 * (7 : Int32)) + a2), .int v7] cw_X1_39  (c_X9_put l D E z (t0 + 2) 280 (lyf_1_links y0) ((a1 * (7 : Int32)) + a2) v7 M6 M9 h8) yn_X9_put rfl ⟨Nat.le_of_ble_eq_true rfl, Nat.le_of_ble_eq_true rfl⟩ rfl rfl (Nat.le_of_ble_eq_true rfl) ⟨Nat.zero_le _, Nat.zero_le _⟩ dX1_empty_60 rfl ?_
        refine am_iinc F [(2, .int (a2 + (1 : Int32))), (0, .ref (z + t0)), (1, .int a1)] 2 dX1_empty_63 (by decide) rfl rfl rfl ?_
        refine am_goto F (tgt := 31) dX1_empty_66 (by decide) ?_
        exact am_sub (lv' := [(0, .ref (z + t0)), (1, .int a1), (2, .int (a2 + (1 : Int32)))]) [1, 2, 0] rfl (ih (a2 + (1 : Int32)) M9 _ _ h K)
      · have h := (if_pos c12).symm.trans h
        refine am_iload_n F 1 dX1_empty_51 rfl rfl ?_
        refine am_goto F (tgt := 60) dX1_empty_52 (by decide) ?_
        obtain ⟨_, M11, h10, h⟩ := am_bE h
        refine am_callSNv F [.ref (z + (t0 + 2)), .int ((a1 * (7 : Int32)) + a2), .int a1] cw_X1_39  (c_X9_put l D E z (t0 + 2) 280 (lyf_1_links y0) ((a1 * (7 : Int32)) + a2) a1 M M11 h10) yn_X9_put rfl ⟨Nat.le_of_ble_eq_true rfl, Nat.le_of_ble_eq_true rfl⟩ rfl rfl (Nat.le_of_ble_eq_true rfl) ⟨Nat.zero_le _, Nat.zero_le _⟩ dX1_empty_60 rfl ?_
        refine am_iinc F [(2, .int (a2 + (1 : Int32))), (0, .ref (z + t0)), (1, .int a1)] 2 dX1_empty_63 (by decide) rfl rfl rfl ?_
        refine am_goto F (tgt := 31) dX1_empty_66 (by decide) ?_
        exact am_sub (lv' := [(0, .ref (z + t0)), (1, .int a1), (2, .int (a2 + (1 : Int32)))]) [1, 2, 0] rfl (ih (a2 + (1 : Int32)) M11 _ _ h K)
def g_X1_empty_L23 (t0 : Nat) : Nat → Int32 → am_M → Option ((Unit) × am_M)
  | 0, _, _ => none
  | n + 1, a1, M => (if (40 : Int32) ≤ a1 then (some ((), M)) else (am_b (g_X1_empty_L31 t0 a1 am_fu (0 : Int32) M) (fun x14 M15 => (g_X1_empty_L23 t0 n (a1 + (1 : Int32)) M15))))
set_option maxHeartbeats 4000000 in
set_option maxRecDepth 100000 in
theorem cl_X1_empty_L23 {l : Launch} {p : Program} {e : Env} {s : State} {m : MethodId} {args : Array Value} {below : List Frame} {meth : Method} {c : Code} {Q : State → Prop} {D : va_G} {E : Nat → ClassId} {z : Nat} (F : am_F p s m args meth c cX1_empty 3 RX1 D E z) (t0 : Nat) (y0 : am_ly t0 = (1, 0)) : ∀ (n : Nat) (a1 : Int32) (M : am_M) (x : Unit) (M1 : am_M), g_X1_empty_L23 t0 n a1 M = some (x, M1) → (am_W p l e rm_X1_empty s m args below meth c Q 3 D E z 0 0 M1 75 [] []) → am_W p l e rm_X1_empty s m args below meth c Q 3 D E z 0 0 M 23 [(0, .ref (z + t0)), (1, .int a1)] [] := by
  intro n
  induction n with
  | zero => intro a1 M x M1 h K; cases h
  | succ n ih =>
    intro a1 M x M1 h K
    rw [g_X1_empty_L23] at h
    refine am_iload_n F 1 dX1_empty_23 rfl rfl ?_
    refine am_bipush F (v := (40 : Int32)) dX1_empty_24 (by decide) ?_
    refine am_icmp_ge F (tgt := 75) dX1_empty_26 (by decide) (fun c17 => ?_) (fun c17 => ?_)
    · have h := (if_pos c17).symm.trans h
      cases h
      exact am_sub (lv' := []) [] rfl (K)
    · have h := (if_neg c17).symm.trans h
      refine am_iconst F (v := (0 : Int32)) dX1_empty_29 (by decide) ?_
      refine am_istore_n F [(2, .int (0 : Int32)), (0, .ref (z + t0)), (1, .int a1)] dX1_empty_30 rfl (by decide) rfl ?_
      obtain ⟨x14, M15, h16, h⟩ := am_bE h
      refine am_sub (lv' := [(0, .ref (z + t0)), (1, .int a1), (2, .int (0 : Int32))]) [1, 2, 0] rfl (cl_X1_empty_L31 F t0 y0 a1 am_fu (0 : Int32) M x14 M15 h16 ?_)
      refine am_iinc F [(1, .int (a1 + (1 : Int32))), (0, .ref (z + t0))] 1 dX1_empty_69 (by decide) rfl rfl rfl ?_
      refine am_goto F (tgt := 23) dX1_empty_72 (by decide) ?_
      exact am_sub (lv' := [(0, .ref (z + t0)), (1, .int (a1 + (1 : Int32)))]) [1, 0] rfl (ih (a1 + (1 : Int32)) M15 _ _ h K)
def g_X1_empty (t0 : Nat) (M : am_M) : Option (Unit × am_M) := (am_b (g_X9_fill (t0 + 1) 40 (0 : Int32) M) (fun _ M2 => (am_b (g_X9_fill (t0 + 3) 4 (-1 : Int32) M2) (fun _ M4 => (am_b (g_X1_empty_L23 t0 am_fu (0 : Int32) (am_s M4 t0 3 (0 : Int32))) (fun x18 M19 => (some ((), M19))))))))
set_option maxHeartbeats 4000000 in
set_option maxRecDepth 100000 in
theorem c_X1_empty (l : Launch) (D : va_G) (E : Nat → ClassId) (z : Nat) (t0 : Nat) (y0 : am_ly t0 = (1, 0)) (M : am_M)  (M1 : am_M) (h : g_X1_empty t0 M = some ((), M1)) : am_Mv l yX1_empty cX1_empty 3 none rm_X1_empty D E z [.ref (z + t0)] M M1 := by
  unfold g_X1_empty at h
  refine am_of (own := RX1) (by decide +kernel) rfl (by exact Nat.le_of_ble_eq_true rfl) ?_
  intro p e s m args below meth c F hr
  show am_W p l e rm_X1_empty s m args below meth c _ 3 D E z 0 0 M 0 [(0, .ref (z + t0))] []
  refine am_aload_n F 0 dX1_empty_0 rfl rfl ?_
  refine gf_X1_9 F y0 dX1_empty_1 ?_
  refine am_iconst F (v := (0 : Int32)) dX1_empty_4 (by decide) ?_
  obtain ⟨_, M2, h1, h⟩ := am_bE h
  refine am_callSNv F [.ref (z + (t0 + 1)), .int (0 : Int32)] cw_X1_27  (c_X9_fill l D E z (t0 + 1) 40 (lyf_1_kinds y0) (0 : Int32) M M2 h1) yn_X9_fill rfl ⟨Nat.le_of_ble_eq_true rfl, Nat.le_of_ble_eq_true rfl⟩ rfl rfl (Nat.le_of_ble_eq_true rfl) ⟨Nat.zero_le _, Nat.zero_le _⟩ dX1_empty_5 rfl ?_
  refine am_aload_n F 0 dX1_empty_8 rfl rfl ?_
  refine gf_X1_18 F y0 dX1_empty_9 ?_
  refine am_iconst F (v := (-1 : Int32)) dX1_empty_12 (by decide) ?_
  obtain ⟨_, M4, h3, h⟩ := am_bE h
  refine am_callSNv F [.ref (z + (t0 + 3)), .int (-1 : Int32)] cw_X1_27  (c_X9_fill l D E z (t0 + 3) 4 (lyf_1_ends y0) (-1 : Int32) M2 M4 h3) yn_X9_fill rfl ⟨Nat.le_of_ble_eq_true rfl, Nat.le_of_ble_eq_true rfl⟩ rfl rfl (Nat.le_of_ble_eq_true rfl) ⟨Nat.zero_le _, Nat.zero_le _⟩ dX1_empty_13 rfl ?_
  refine am_aload_n F 0 dX1_empty_16 rfl rfl ?_
  refine am_iconst F (v := (0 : Int32)) dX1_empty_17 (by decide) ?_
  refine pf_X1_31 F y0 dX1_empty_18 ?_
  refine am_iconst F (v := (0 : Int32)) dX1_empty_21 (by decide) ?_
  refine am_istore_n F [(1, .int (0 : Int32)), (0, .ref (z + t0))] dX1_empty_22 rfl (by decide) rfl ?_
  obtain ⟨x18, M19, h20, h⟩ := am_bE h
  refine am_sub (lv' := [(0, .ref (z + t0)), (1, .int (0 : Int32))]) [1, 0] rfl (cl_X1_empty_L23 F t0 y0 am_fu (0 : Int32) (am_s M4 t0 3 (0 : Int32)) x18 M19 h20 ?_)
  exact am_vret F hr h dX1_empty_75
/-! AisleScheduler.copyRow([I[I)V -/
abbrev rm_X9_copyRow : Room := { frames := 1, cells := 0, slots := 0, locals := 24 }
theorem yn_X9_copyRow : am_yn yX9_copyRow 2 := ⟨⟨by decide +kernel, by decide +kernel⟩, by decide +kernel⟩
def g_X9_copyRow_L2 (t0 n0 : Nat) (t1 n1 : Nat) : Nat → Int32 → am_M → Option ((Unit) × am_M)
  | 0, _, _ => none
  | n + 1, a2, M => (if (Int32.ofNat n0) ≤ a2 then (some ((), M)) else (if (Int32.ofNat n1) ≤ a2 then (some ((), M)) else (am_ci a2 n0 (am_ci a2 n1 (g_X9_copyRow_L2 t0 n0 t1 n1 n (a2 + (1 : Int32)) (am_s M t1 a2.toNatClampNeg (am_g M t0 a2.toNatClampNeg)))))))
set_option maxHeartbeats 4000000 in
set_option maxRecDepth 100000 in
theorem cl_X9_copyRow_L2 {l : Launch} {p : Program} {e : Env} {s : State} {m : MethodId} {args : Array Value} {below : List Frame} {meth : Method} {c : Code} {Q : State → Prop} {D : va_G} {E : Nat → ClassId} {z : Nat} (F : am_F p s m args meth c cX9_copyRow 3 RX9 D E z) (t0 n0 : Nat) (y0 : am_ly t0 = (20, n0)) (t1 n1 : Nat) (y1 : am_ly t1 = (20, n1)) : ∀ (n : Nat) (a2 : Int32) (M : am_M) (x : Unit) (M1 : am_M), g_X9_copyRow_L2 t0 n0 t1 n1 n a2 M = some (x, M1) → (am_W p l e rm_X9_copyRow s m args below meth c Q 3 D E z 0 0 M1 26 [] []) → am_W p l e rm_X9_copyRow s m args below meth c Q 3 D E z 0 0 M 2 [(0, .ref (z + t0)), (1, .ref (z + t1)), (2, .int a2)] [] := by
  intro n
  induction n with
  | zero => intro a2 M x M1 h K; cases h
  | succ n ih =>
    intro a2 M x M1 h K
    rw [g_X9_copyRow_L2] at h
    refine am_iload_n F 2 dX9_copyRow_2 rfl rfl ?_
    refine am_aload_n F 0 dX9_copyRow_3 rfl rfl ?_
    refine am_alen F y0 (by decide) (by decide) (t0 := 0) rfl (v := (Int32.ofNat n0)) rfl dX9_copyRow_4 ?_
    refine am_icmp_ge F (tgt := 26) dX9_copyRow_5 (by decide) (fun c4 => ?_) (fun c4 => ?_)
    · have h := (if_pos c4).symm.trans h
      cases h
      exact am_sub (lv' := []) [] rfl (K)
    · have h := (if_neg c4).symm.trans h
      refine am_iload_n F 2 dX9_copyRow_8 rfl rfl ?_
      refine am_aload_n F 1 dX9_copyRow_9 rfl rfl ?_
      refine am_alen F y1 (by decide) (by decide) (t0 := 0) rfl (v := (Int32.ofNat n1)) rfl dX9_copyRow_10 ?_
      refine am_icmp_ge F (tgt := 26) dX9_copyRow_11 (by decide) (fun c3 => ?_) (fun c3 => ?_)
      · have h := (if_pos c3).symm.trans h
        cases h
        exact am_sub (lv' := []) [] rfl (K)
      · have h := (if_neg c3).symm.trans h
        refine am_aload_n F 1 dX9_copyRow_14 rfl rfl ?_
        refine am_iload_n F 2 dX9_copyRow_15 rfl rfl ?_
        refine am_aload_n F 0 dX9_copyRow_16 rfl rfl ?_
        refine am_iload_n F 2 dX9_copyRow_17 rfl rfl ?_
        obtain ⟨q1, h⟩ := am_ciE h
        refine am_iald F y0 q1 dX9_copyRow_18 ?_
        obtain ⟨q2, h⟩ := am_ciE h
        refine am_iast F y1 q2 dX9_copyRow_19 ?_
        refine am_iinc F [(2, .int (a2 + (1 : Int32))), (0, .ref (z + t0)), (1, .ref (z + t1))] 2 dX9_copyRow_20 (by decide) rfl rfl rfl ?_
        refine am_goto F (tgt := 2) dX9_copyRow_23 (by decide) ?_
        exact am_sub (lv' := [(0, .ref (z + t0)), (1, .ref (z + t1)), (2, .int (a2 + (1 : Int32)))]) [1, 2, 0] rfl (ih (a2 + (1 : Int32)) (am_s M t1 a2.toNatClampNeg (am_g M t0 a2.toNatClampNeg)) _ _ h K)
def g_X9_copyRow (t0 n0 : Nat) (t1 n1 : Nat) (M : am_M) : Option (Unit × am_M) := (am_b (g_X9_copyRow_L2 t0 n0 t1 n1 am_fu (0 : Int32) M) (fun x5 M6 => (some ((), M6))))
set_option maxHeartbeats 4000000 in
set_option maxRecDepth 100000 in
theorem c_X9_copyRow (l : Launch) (D : va_G) (E : Nat → ClassId) (z : Nat) (t0 n0 : Nat) (y0 : am_ly t0 = (20, n0)) (t1 n1 : Nat) (y1 : am_ly t1 = (20, n1)) (M : am_M)  (M1 : am_M) (h : g_X9_copyRow t0 n0 t1 n1 M = some ((), M1)) : am_Mv l yX9_copyRow cX9_copyRow 3 none rm_X9_copyRow D E z [.ref (z + t0), .ref (z + t1)] M M1 := by
  unfold g_X9_copyRow at h
  refine am_of (own := RX9) (by decide +kernel) rfl (by exact Nat.le_of_ble_eq_true rfl) ?_
  intro p e s m args below meth c F hr
  show am_W p l e rm_X9_copyRow s m args below meth c _ 3 D E z 0 0 M 0 [(0, .ref (z + t0)), (1, .ref (z + t1))] []
  refine am_iconst F (v := (0 : Int32)) dX9_copyRow_0 (by decide) ?_
  refine am_istore_n F [(2, .int (0 : Int32)), (0, .ref (z + t0)), (1, .ref (z + t1))] dX9_copyRow_1 rfl (by decide) rfl ?_
  obtain ⟨x5, M6, h7, h⟩ := am_bE h
  refine am_sub (lv' := [(0, .ref (z + t0)), (1, .ref (z + t1)), (2, .int (0 : Int32))]) [1, 2, 0] rfl (cl_X9_copyRow_L2 F t0 n0 y0 t1 n1 y1 am_fu (0 : Int32) M x5 M6 h7 ?_)
  exact am_vret F hr h dX9_copyRow_26
/-! AisleScheduler$Floor.copyFrom(LAisleScheduler$Floor;)V -/
abbrev rm_X1_copyFrom : Room := { frames := 2, cells := 0, slots := 0, locals := 46 }
theorem yn_X1_copyFrom : am_yn yX1_copyFrom 1 := ⟨⟨by decide +kernel, by decide +kernel⟩, by decide +kernel⟩
def g_X1_copyFrom (t0 : Nat) (t1 : Nat) (M : am_M) : Option (Unit × am_M) := (am_b (g_X9_copyRow (t1 + 1) 40 (t0 + 1) 40 M) (fun _ M2 => (am_b (g_X9_copyRow (t1 + 2) 280 (t0 + 2) 280 M2) (fun _ M4 => (am_b (g_X9_copyRow (t1 + 3) 4 (t0 + 3) 4 M4) (fun _ M6 => (some ((), (am_s M6 t0 3 (am_g M6 t1 3))))))))))
set_option maxHeartbeats 4000000 in
set_option maxRecDepth 100000 in
theorem c_X1_copyFrom (l : Launch) (D : va_G) (E : Nat → ClassId) (z : Nat) (t0 : Nat) (y0 : am_ly t0 = (1, 0)) (t1 : Nat) (y1 : am_ly t1 = (1, 0)) (M : am_M)  (M1 : am_M) (h : g_X1_copyFrom t0 t1 M = some ((), M1)) : am_Mv l yX1_copyFrom cX1_copyFrom 2 none rm_X1_copyFrom D E z [.ref (z + t0), .ref (z + t1)] M M1 := by
  unfold g_X1_copyFrom at h
  refine am_of (own := RX1) (by decide +kernel) rfl (by exact Nat.le_of_ble_eq_true rfl) ?_
  intro p e s m args below meth c F hr
  show am_W p l e rm_X1_copyFrom s m args below meth c _ 2 D E z 0 0 M 0 [(0, .ref (z + t0)), (1, .ref (z + t1))] []
  refine am_aload_n F 1 dX1_copyFrom_0 rfl rfl ?_
  refine gf_X1_9 F y1 dX1_copyFrom_1 ?_
  refine am_aload_n F 0 dX1_copyFrom_4 rfl rfl ?_
  refine gf_X1_9 F y0 dX1_copyFrom_5 ?_
  obtain ⟨_, M2, h1, h⟩ := am_bE h
  refine am_callSNv F [.ref (z + (t1 + 1)), .ref (z + (t0 + 1))] cw_X1_43  (c_X9_copyRow l D E z (t1 + 1) 40 (lyf_1_kinds y1) (t0 + 1) 40 (lyf_1_kinds y0) M M2 h1) yn_X9_copyRow rfl ⟨Nat.le_of_ble_eq_true rfl, Nat.le_of_ble_eq_true rfl⟩ rfl rfl (Nat.le_of_ble_eq_true rfl) ⟨Nat.zero_le _, Nat.zero_le _⟩ dX1_copyFrom_8 rfl ?_
  refine am_aload_n F 1 dX1_copyFrom_11 rfl rfl ?_
  refine gf_X1_15 F y1 dX1_copyFrom_12 ?_
  refine am_aload_n F 0 dX1_copyFrom_15 rfl rfl ?_
  refine gf_X1_15 F y0 dX1_copyFrom_16 ?_
  obtain ⟨_, M4, h3, h⟩ := am_bE h
  refine am_callSNv F [.ref (z + (t1 + 2)), .ref (z + (t0 + 2))] cw_X1_43  (c_X9_copyRow l D E z (t1 + 2) 280 (lyf_1_links y1) (t0 + 2) 280 (lyf_1_links y0) M2 M4 h3) yn_X9_copyRow rfl ⟨Nat.le_of_ble_eq_true rfl, Nat.le_of_ble_eq_true rfl⟩ rfl rfl (Nat.le_of_ble_eq_true rfl) ⟨Nat.zero_le _, Nat.zero_le _⟩ dX1_copyFrom_19 rfl ?_
  refine am_aload_n F 1 dX1_copyFrom_22 rfl rfl ?_
  refine gf_X1_18 F y1 dX1_copyFrom_23 ?_
  refine am_aload_n F 0 dX1_copyFrom_26 rfl rfl ?_
  refine gf_X1_18 F y0 dX1_copyFrom_27 ?_
  obtain ⟨_, M6, h5, h⟩ := am_bE h
  refine am_callSNv F [.ref (z + (t1 + 3)), .ref (z + (t0 + 3))] cw_X1_43  (c_X9_copyRow l D E z (t1 + 3) 4 (lyf_1_ends y1) (t0 + 3) 4 (lyf_1_ends y0) M4 M6 h5) yn_X9_copyRow rfl ⟨Nat.le_of_ble_eq_true rfl, Nat.le_of_ble_eq_true rfl⟩ rfl rfl (Nat.le_of_ble_eq_true rfl) ⟨Nat.zero_le _, Nat.zero_le _⟩ dX1_copyFrom_30 rfl ?_
  refine am_aload_n F 0 dX1_copyFrom_33 rfl rfl ?_
  refine am_aload_n F 1 dX1_copyFrom_34 rfl rfl ?_
  refine gf_X1_31 F y1 dX1_copyFrom_35 ?_
  refine pf_X1_31 F y0 dX1_copyFrom_38 ?_
  exact am_vret F hr h dX1_copyFrom_41
/-! AisleScheduler$Floor.isLiftEnd(I)Z -/
abbrev rm_X1_isLiftEnd : Room := { frames := 2, cells := 0, slots := 0, locals := 45 }
theorem yn_X1_isLiftEnd : am_yn yX1_isLiftEnd 1 := ⟨⟨by decide +kernel, by decide +kernel⟩, by decide +kernel⟩
def g_X1_isLiftEnd_L2 (t0 : Nat) (a1 : Int32) : Nat → Int32 → am_M → Option ((Nat) × am_M)
  | 0, _, _ => none
  | n + 1, a2, M => (if ((2 : Int32) * (am_g M t0 3)) ≤ a2 then (some (32, M)) else (am_b (g_X9_at (t0 + 3) 4 a2 M) (fun v3 M2 => (if v3 = a1 then (some (24, M2)) else (g_X1_isLiftEnd_L2 t0 a1 n (a2 + (1 : Int32)) M2)))))
set_option maxHeartbeats 4000000 in
set_option maxRecDepth 100000 in
theorem cl_X1_isLiftEnd_L2 {l : Launch} {p : Program} {e : Env} {s : State} {m : MethodId} {args : Array Value} {below : List Frame} {meth : Method} {c : Code} {Q : State → Prop} {D : va_G} {E : Nat → ClassId} {z : Nat} (F : am_F p s m args meth c cX1_isLiftEnd 3 RX1 D E z) (t0 : Nat) (y0 : am_ly t0 = (1, 0)) (a1 : Int32) : ∀ (n : Nat) (a2 : Int32) (M : am_M) (x : Nat) (M1 : am_M), g_X1_isLiftEnd_L2 t0 a1 n a2 M = some (x, M1) → ((x = 24 → am_W p l e rm_X1_isLiftEnd s m args below meth c Q 3 D E z 0 0 M1 24 [] []) ∧ (x = 32 → am_W p l e rm_X1_isLiftEnd s m args below meth c Q 3 D E z 0 0 M1 32 [] [])) → am_W p l e rm_X1_isLiftEnd s m args below meth c Q 3 D E z 0 0 M 2 [(0, .ref (z + t0)), (1, .int a1), (2, .int a2)] [] := by
  intro n
  induction n with
  | zero => intro a2 M x M1 h K; cases h
  | succ n ih =>
    intro a2 M x M1 h K
    rw [g_X1_isLiftEnd_L2] at h
    refine am_iload_n F 2 dX1_isLiftEnd_2 rfl rfl ?_
    refine am_iconst F (v := (2 : Int32)) dX1_isLiftEnd_3 (by decide) ?_
    refine am_aload_n F 0 dX1_isLiftEnd_4 rfl rfl ?_
    refine gf_X1_31 F y0 dX1_isLiftEnd_5 ?_
    refine am_imul F dX1_isLiftEnd_8 ?_
    refine am_icmp_ge F (tgt := 32) dX1_isLiftEnd_9 (by decide) (fun c5 => ?_) (fun c5 => ?_)
    · have h := (if_pos c5).symm.trans h
      cases h
      exact am_sub (lv' := []) [] rfl (K.2 rfl)
    · have h := (if_neg c5).symm.trans h
      refine am_aload_n F 0 dX1_isLiftEnd_12 rfl rfl ?_
      refine gf_X1_18 F y0 dX1_isLiftEnd_13 ?_
      refine am_iload_n F 2 dX1_isLiftEnd_16 rfl rfl ?_
      obtain ⟨v3, M2, h1, h⟩ := am_bE h
      refine am_callSNi F [.ref (z + (t0 + 3)), .int a2] cw_X1_47  (c_X9_at l D E z (t0 + 3) 4 (lyf_1_ends y0) a2 M v3 M2 h1) yn_X9_at rfl ⟨Nat.le_of_ble_eq_true rfl, Nat.le_of_ble_eq_true rfl⟩ rfl rfl (Nat.le_of_ble_eq_true rfl) ⟨Nat.zero_le _, Nat.zero_le _⟩ dX1_isLiftEnd_17 rfl ?_
      refine am_iload_n F 1 dX1_isLiftEnd_20 rfl rfl ?_
      refine am_icmp_ne F (tgt := 26) dX1_isLiftEnd_21 (by decide) (fun c4 => ?_) (fun c4 => ?_)
      · have h := (if_neg c4).symm.trans h
        refine am_iinc F [(2, .int (a2 + (1 : Int32))), (0, .ref (z + t0)), (1, .int a1)] 2 dX1_isLiftEnd_26 (by decide) rfl rfl rfl ?_
        refine am_goto F (tgt := 2) dX1_isLiftEnd_29 (by decide) ?_
        exact am_sub (lv' := [(0, .ref (z + t0)), (1, .int a1), (2, .int (a2 + (1 : Int32)))]) [1, 2, 0] rfl (ih (a2 + (1 : Int32)) M2 _ _ h K)
      · have h := (if_pos c4).symm.trans h
        cases h
        exact am_sub (lv' := []) [] rfl (K.1 rfl)
def g_X1_isLiftEnd (t0 : Nat) (a1 : Int32) (M : am_M) : Option (Int32 × am_M) := (am_b (g_X1_isLiftEnd_L2 t0 a1 am_fu (0 : Int32) M) (fun x6 M7 => (if x6 = 24 then (some ((1 : Int32), M7)) else (some ((0 : Int32), M7)))))
set_option maxHeartbeats 4000000 in
set_option maxRecDepth 100000 in
theorem c_X1_isLiftEnd (l : Launch) (D : va_G) (E : Nat → ClassId) (z : Nat) (t0 : Nat) (y0 : am_ly t0 = (1, 0)) (a1 : Int32) (M : am_M) (r0 : Int32) (M1 : am_M) (h : g_X1_isLiftEnd t0 a1 M = some (r0, M1)) : am_Mi l yX1_isLiftEnd cX1_isLiftEnd 3 (some .boolean) rm_X1_isLiftEnd D E z [.ref (z + t0), .int a1] M r0 M1 := by
  unfold g_X1_isLiftEnd at h
  refine am_of (own := RX1) (by decide +kernel) rfl (by exact Nat.le_of_ble_eq_true rfl) ?_
  intro p e s m args below meth c F hr
  show am_W p l e rm_X1_isLiftEnd s m args below meth c _ 3 D E z 0 0 M 0 [(0, .ref (z + t0)), (1, .int a1)] []
  refine am_iconst F (v := (0 : Int32)) dX1_isLiftEnd_0 (by decide) ?_
  refine am_istore_n F [(2, .int (0 : Int32)), (0, .ref (z + t0)), (1, .int a1)] dX1_isLiftEnd_1 rfl (by decide) rfl ?_
  obtain ⟨x6, M7, h8, h⟩ := am_bE h
  refine am_sub (lv' := [(0, .ref (z + t0)), (1, .int a1), (2, .int (0 : Int32))]) [1, 2, 0] rfl (cl_X1_isLiftEnd_L2 F t0 y0 a1 am_fu (0 : Int32) M x6 M7 h8 ⟨fun c9 => ?_, fun c9 => ?_⟩)
  · have h := (if_pos c9).symm.trans h
    refine am_iconst F (v := (1 : Int32)) dX1_isLiftEnd_24 (by decide) ?_
    exact am_zret F hr (by decide) h dX1_isLiftEnd_25
  · have h := (if_neg (by rw [c9]; decide)).symm.trans h
    refine am_iconst F (v := (0 : Int32)) dX1_isLiftEnd_32 (by decide) ?_
    exact am_zret F hr (by decide) h dX1_isLiftEnd_33
/-! AisleScheduler$Floor.addLiftBetween(II)V -/
abbrev rm_X1_addLiftBetween : Room := { frames := 2, cells := 0, slots := 0, locals := 46 }
theorem yn_X1_addLiftBetween : am_yn yX1_addLiftBetween 2 := ⟨⟨by decide +kernel, by decide +kernel⟩, by decide +kernel⟩
def g_X1_addLiftBetween (t0 : Nat) (a1 : Int32) (a2 : Int32) (M : am_M) : Option (Unit × am_M) := (am_b (g_X9_put (t0 + 3) 4 ((2 : Int32) * (am_g M t0 3)) a1 M) (fun _ M2 => (am_b (g_X9_put (t0 + 3) 4 (((2 : Int32) * (am_g M2 t0 3)) + (1 : Int32)) a2 M2) (fun _ M4 => (am_b (g_X9_put (t0 + 2) 280 (((a1 * (7 : Int32)) + (5 : Int32)) + (am_g M4 t0 3)) a2 M4) (fun _ M6 => (am_b (g_X9_put (t0 + 2) 280 (((a2 * (7 : Int32)) + (5 : Int32)) + (am_g M6 t0 3)) a1 M6) (fun _ M8 => (some ((), (am_s M8 t0 3 ((am_g M8 t0 3) + (1 : Int32)))))))))))))
set_option maxHeartbeats 4000000 in
set_option maxRecDepth 100000 in
theorem c_X1_addLiftBetween (l : Launch) (D : va_G) (E : Nat → ClassId) (z : Nat) (t0 : Nat) (y0 : am_ly t0 = (1, 0)) (a1 : Int32) (a2 : Int32) (M : am_M)  (M1 : am_M) (h : g_X1_addLiftBetween t0 a1 a2 M = some ((), M1)) : am_Mv l yX1_addLiftBetween cX1_addLiftBetween 3 none rm_X1_addLiftBetween D E z [.ref (z + t0), .int a1, .int a2] M M1 := by
  unfold g_X1_addLiftBetween at h
  refine am_of (own := RX1) (by decide +kernel) rfl (by exact Nat.le_of_ble_eq_true rfl) ?_
  intro p e s m args below meth c F hr
  show am_W p l e rm_X1_addLiftBetween s m args below meth c _ 3 D E z 0 0 M 0 [(0, .ref (z + t0)), (1, .int a1), (2, .int a2)] []
  refine am_aload_n F 0 dX1_addLiftBetween_0 rfl rfl ?_
  refine gf_X1_18 F y0 dX1_addLiftBetween_1 ?_
  refine am_iconst F (v := (2 : Int32)) dX1_addLiftBetween_4 (by decide) ?_
  refine am_aload_n F 0 dX1_addLiftBetween_5 rfl rfl ?_
  refine gf_X1_31 F y0 dX1_addLiftBetween_6 ?_
  refine am_imul F dX1_addLiftBetween_9 ?_
  refine am_iload_n F 1 dX1_addLiftBetween_10 rfl rfl ?_
  obtain ⟨_, M2, h1, h⟩ := am_bE h
  refine am_callSNv F [.ref (z + (t0 + 3)), .int ((2 : Int32) * (am_g M t0 3)), .int a1] cw_X1_39  (c_X9_put l D E z (t0 + 3) 4 (lyf_1_ends y0) ((2 : Int32) * (am_g M t0 3)) a1 M M2 h1) yn_X9_put rfl ⟨Nat.le_of_ble_eq_true rfl, Nat.le_of_ble_eq_true rfl⟩ rfl rfl (Nat.le_of_ble_eq_true rfl) ⟨Nat.zero_le _, Nat.zero_le _⟩ dX1_addLiftBetween_11 rfl ?_
  refine am_aload_n F 0 dX1_addLiftBetween_14 rfl rfl ?_
  refine gf_X1_18 F y0 dX1_addLiftBetween_15 ?_
  refine am_iconst F (v := (2 : Int32)) dX1_addLiftBetween_18 (by decide) ?_
  refine am_aload_n F 0 dX1_addLiftBetween_19 rfl rfl ?_
  refine gf_X1_31 F y0 dX1_addLiftBetween_20 ?_
  refine am_imul F dX1_addLiftBetween_23 ?_
  refine am_iconst F (v := (1 : Int32)) dX1_addLiftBetween_24 (by decide) ?_
  refine am_iadd F dX1_addLiftBetween_25 ?_
  refine am_iload_n F 2 dX1_addLiftBetween_26 rfl rfl ?_
  obtain ⟨_, M4, h3, h⟩ := am_bE h
  refine am_callSNv F [.ref (z + (t0 + 3)), .int (((2 : Int32) * (am_g M2 t0 3)) + (1 : Int32)), .int a2] cw_X1_39  (c_X9_put l D E z (t0 + 3) 4 (lyf_1_ends y0) (((2 : Int32) * (am_g M2 t0 3)) + (1 : Int32)) a2 M2 M4 h3) yn_X9_put rfl ⟨Nat.le_of_ble_eq_true rfl, Nat.le_of_ble_eq_true rfl⟩ rfl rfl (Nat.le_of_ble_eq_true rfl) ⟨Nat.zero_le _, Nat.zero_le _⟩ dX1_addLiftBetween_27 rfl ?_
  refine am_aload_n F 0 dX1_addLiftBetween_30 rfl rfl ?_
  refine gf_X1_15 F y0 dX1_addLiftBetween_31 ?_
  refine am_iload_n F 1 dX1_addLiftBetween_34 rfl rfl ?_
  refine am_bipush F (v := (7 : Int32)) dX1_addLiftBetween_35 (by decide) ?_
  refine am_imul F dX1_addLiftBetween_37 ?_
  refine am_iconst F (v := (5 : Int32)) dX1_addLiftBetween_38 (by decide) ?_
  refine am_iadd F dX1_addLiftBetween_39 ?_
  refine am_aload_n F 0 dX1_addLiftBetween_40 rfl rfl ?_
  refine gf_X1_31 F y0 dX1_addLiftBetween_41 ?_
  refine am_iadd F dX1_addLiftBetween_44 ?_
  refine am_iload_n F 2 dX1_addLiftBetween_45 rfl rfl ?_
  obtain ⟨_, M6, h5, h⟩ := am_bE h
  refine am_callSNv F [.ref (z + (t0 + 2)), .int (((a1 * (7 : Int32)) + (5 : Int32)) + (am_g M4 t0 3)), .int a2] cw_X1_39  (c_X9_put l D E z (t0 + 2) 280 (lyf_1_links y0) (((a1 * (7 : Int32)) + (5 : Int32)) + (am_g M4 t0 3)) a2 M4 M6 h5) yn_X9_put rfl ⟨Nat.le_of_ble_eq_true rfl, Nat.le_of_ble_eq_true rfl⟩ rfl rfl (Nat.le_of_ble_eq_true rfl) ⟨Nat.zero_le _, Nat.zero_le _⟩ dX1_addLiftBetween_46 rfl ?_
  refine am_aload_n F 0 dX1_addLiftBetween_49 rfl rfl ?_
  refine gf_X1_15 F y0 dX1_addLiftBetween_50 ?_
  refine am_iload_n F 2 dX1_addLiftBetween_53 rfl rfl ?_
  refine am_bipush F (v := (7 : Int32)) dX1_addLiftBetween_54 (by decide) ?_
  refine am_imul F dX1_addLiftBetween_56 ?_
  refine am_iconst F (v := (5 : Int32)) dX1_addLiftBetween_57 (by decide) ?_
  refine am_iadd F dX1_addLiftBetween_58 ?_
  refine am_aload_n F 0 dX1_addLiftBetween_59 rfl rfl ?_
  refine gf_X1_31 F y0 dX1_addLiftBetween_60 ?_
  refine am_iadd F dX1_addLiftBetween_63 ?_
  refine am_iload_n F 1 dX1_addLiftBetween_64 rfl rfl ?_
  obtain ⟨_, M8, h7, h⟩ := am_bE h
  refine am_callSNv F [.ref (z + (t0 + 2)), .int (((a2 * (7 : Int32)) + (5 : Int32)) + (am_g M6 t0 3)), .int a1] cw_X1_39  (c_X9_put l D E z (t0 + 2) 280 (lyf_1_links y0) (((a2 * (7 : Int32)) + (5 : Int32)) + (am_g M6 t0 3)) a1 M6 M8 h7) yn_X9_put rfl ⟨Nat.le_of_ble_eq_true rfl, Nat.le_of_ble_eq_true rfl⟩ rfl rfl (Nat.le_of_ble_eq_true rfl) ⟨Nat.zero_le _, Nat.zero_le _⟩ dX1_addLiftBetween_65 rfl ?_
  refine am_aload_n F 0 dX1_addLiftBetween_68 rfl rfl ?_
  refine am_dup F dX1_addLiftBetween_69 rfl ?_
  refine gf_X1_31 F y0 dX1_addLiftBetween_70 ?_
  refine am_iconst F (v := (1 : Int32)) dX1_addLiftBetween_73 (by decide) ?_
  refine am_iadd F dX1_addLiftBetween_74 ?_
  refine pf_X1_31 F y0 dX1_addLiftBetween_75 ?_
  exact am_vret F hr h dX1_addLiftBetween_78
/-! AisleScheduler$Floor.countOf(I)I -/
abbrev rm_X1_countOf : Room := { frames := 2, cells := 0, slots := 0, locals := 45 }
theorem yn_X1_countOf : am_yn yX1_countOf 1 := ⟨⟨by decide +kernel, by decide +kernel⟩, by decide +kernel⟩
def g_X1_countOf_L4 (t0 : Nat) (a1 : Int32) : Nat → Int32 → Int32 → am_M → Option ((Int32) × am_M)
  | 0, _, _, _ => none
  | n + 1, a2, a3, M => (if (40 : Int32) ≤ a3 then (some (a2, M)) else (am_b (g_X9_at (t0 + 1) 40 a3 M) (fun v3 M2 => (if v3 = a1 then (g_X1_countOf_L4 t0 a1 n (a2 + (1 : Int32)) (a3 + (1 : Int32)) M2) else (g_X1_countOf_L4 t0 a1 n a2 (a3 + (1 : Int32)) M2)))))
set_option maxHeartbeats 4000000 in
set_option maxRecDepth 100000 in
theorem cl_X1_countOf_L4 {l : Launch} {p : Program} {e : Env} {s : State} {m : MethodId} {args : Array Value} {below : List Frame} {meth : Method} {c : Code} {Q : State → Prop} {D : va_G} {E : Nat → ClassId} {z : Nat} (F : am_F p s m args meth c cX1_countOf 4 RX1 D E z) (t0 : Nat) (y0 : am_ly t0 = (1, 0)) (a1 : Int32) : ∀ (n : Nat) (a2 : Int32) (a3 : Int32) (M : am_M) (x : Int32) (M1 : am_M), g_X1_countOf_L4 t0 a1 n a2 a3 M = some (x, M1) → (am_W p l e rm_X1_countOf s m args below meth c Q 4 D E z 0 0 M1 31 [(2, .int x)] []) → am_W p l e rm_X1_countOf s m args below meth c Q 4 D E z 0 0 M 4 [(0, .ref (z + t0)), (1, .int a1), (2, .int a2), (3, .int a3)] [] := by
  intro n
  induction n with
  | zero => intro a2 a3 M x M1 h K; cases h
  | succ n ih =>
    intro a2 a3 M x M1 h K
    rw [g_X1_countOf_L4] at h
    refine am_iload_n F 3 dX1_countOf_4 rfl rfl ?_
    refine am_bipush F (v := (40 : Int32)) dX1_countOf_5 (by decide) ?_
    refine am_icmp_ge F (tgt := 31) dX1_countOf_7 (by decide) (fun c5 => ?_) (fun c5 => ?_)
    · have h := (if_pos c5).symm.trans h
      cases h
      exact am_sub (lv' := [(2, .int a2)]) [2] rfl (K)
    · have h := (if_neg c5).symm.trans h
      refine am_aload_n F 0 dX1_countOf_10 rfl rfl ?_
      refine gf_X1_9 F y0 dX1_countOf_11 ?_
      refine am_iload_n F 3 dX1_countOf_14 rfl rfl ?_
      obtain ⟨v3, M2, h1, h⟩ := am_bE h
      refine am_callSNi F [.ref (z + (t0 + 1)), .int a3] cw_X1_47  (c_X9_at l D E z (t0 + 1) 40 (lyf_1_kinds y0) a3 M v3 M2 h1) yn_X9_at rfl ⟨Nat.le_of_ble_eq_true rfl, Nat.le_of_ble_eq_true rfl⟩ rfl rfl (Nat.le_of_ble_eq_true rfl) ⟨Nat.zero_le _, Nat.zero_le _⟩ dX1_countOf_15 rfl ?_
      refine am_iload_n F 1 dX1_countOf_18 rfl rfl ?_
      refine am_icmp_ne F (tgt := 25) dX1_countOf_19 (by decide) (fun c4 => ?_) (fun c4 => ?_)
      · have h := (if_neg c4).symm.trans h
        refine am_iinc F [(3, .int (a3 + (1 : Int32))), (0, .ref (z + t0)), (1, .int a1), (2, .int a2)] 3 dX1_countOf_25 (by decide) rfl rfl rfl ?_
        refine am_goto F (tgt := 4) dX1_countOf_28 (by decide) ?_
        exact am_sub (lv' := [(0, .ref (z + t0)), (1, .int a1), (2, .int a2), (3, .int (a3 + (1 : Int32)))]) [1, 2, 3, 0] rfl (ih a2 (a3 + (1 : Int32)) M2 _ _ h K)
      · have h := (if_pos c4).symm.trans h
        refine am_iinc F [(2, .int (a2 + (1 : Int32))), (0, .ref (z + t0)), (1, .int a1), (3, .int a3)] 2 dX1_countOf_22 (by decide) rfl rfl rfl ?_
        refine am_iinc F [(3, .int (a3 + (1 : Int32))), (2, .int (a2 + (1 : Int32))), (0, .ref (z + t0)), (1, .int a1)] 3 dX1_countOf_25 (by decide) rfl rfl rfl ?_
        refine am_goto F (tgt := 4) dX1_countOf_28 (by decide) ?_
        exact am_sub (lv' := [(0, .ref (z + t0)), (1, .int a1), (2, .int (a2 + (1 : Int32))), (3, .int (a3 + (1 : Int32)))]) [2, 3, 1, 0] rfl (ih (a2 + (1 : Int32)) (a3 + (1 : Int32)) M2 _ _ h K)
def g_X1_countOf (t0 : Nat) (a1 : Int32) (M : am_M) : Option (Int32 × am_M) := (am_b (g_X1_countOf_L4 t0 a1 am_fu (0 : Int32) (0 : Int32) M) (fun x6 M7 => (some (x6, M7))))
set_option maxHeartbeats 4000000 in
set_option maxRecDepth 100000 in
theorem c_X1_countOf (l : Launch) (D : va_G) (E : Nat → ClassId) (z : Nat) (t0 : Nat) (y0 : am_ly t0 = (1, 0)) (a1 : Int32) (M : am_M) (r0 : Int32) (M1 : am_M) (h : g_X1_countOf t0 a1 M = some (r0, M1)) : am_Mi l yX1_countOf cX1_countOf 4 (some .int) rm_X1_countOf D E z [.ref (z + t0), .int a1] M r0 M1 := by
  unfold g_X1_countOf at h
  refine am_of (own := RX1) (by decide +kernel) rfl (by exact Nat.le_of_ble_eq_true rfl) ?_
  intro p e s m args below meth c F hr
  show am_W p l e rm_X1_countOf s m args below meth c _ 4 D E z 0 0 M 0 [(0, .ref (z + t0)), (1, .int a1)] []
  refine am_iconst F (v := (0 : Int32)) dX1_countOf_0 (by decide) ?_
  refine am_istore_n F [(2, .int (0 : Int32)), (0, .ref (z + t0)), (1, .int a1)] dX1_countOf_1 rfl (by decide) rfl ?_
  refine am_iconst F (v := (0 : Int32)) dX1_countOf_2 (by decide) ?_
  refine am_istore_n F [(3, .int (0 : Int32)), (2, .int (0 : Int32)), (0, .ref (z + t0)), (1, .int a1)] dX1_countOf_3 rfl (by decide) rfl ?_
  obtain ⟨x6, M7, h8, h⟩ := am_bE h
  refine am_sub (lv' := [(0, .ref (z + t0)), (1, .int a1), (2, .int (0 : Int32)), (3, .int (0 : Int32))]) [2, 3, 1, 0] rfl (cl_X1_countOf_L4 F t0 y0 a1 am_fu (0 : Int32) (0 : Int32) M x6 M7 h8 ?_)
  refine am_iload_n F 0 dX1_countOf_31 rfl rfl ?_
  exact am_iret F hr h dX1_countOf_32
/-! AisleScheduler$Floor.shortenBehind(I)Z -/
abbrev rm_X1_shortenBehind : Room := { frames := 3, cells := 0, slots := 0, locals := 66 }
theorem yn_X1_shortenBehind : am_yn yX1_shortenBehind 1 := ⟨⟨by decide +kernel, by decide +kernel⟩, by decide +kernel⟩
def g_X1_shortenBehind_L4 (t0 : Nat) (a1 : Int32) : Nat → Int32 → Int32 → am_M → Option ((Int32) × am_M)
  | 0, _, _, _ => none
  | n + 1, a2, a3, M => (if (7 : Int32) ≤ a3 then (some (a2, M)) else (am_b (g_X9_at (t0 + 2) 280 ((a1 * (7 : Int32)) + a3) M) (fun v3 M2 => (am_b (g_X9_at (t0 + 4) 40 a1 M2) (fun v6 M5 => (am_b (g_X9_ticksOf a3 M5) (fun v9 M8 => (if v3 < (0 : Int32) then (g_X1_shortenBehind_L4 t0 a1 n a2 (a3 + (1 : Int32)) M8) else (am_b (g_X1_isWall t0 v3 M8) (fun v12 M11 => (if v12 = (0 : Int32) then (am_b (g_X9_at (t0 + 4) 40 v3 M11) (fun v15 M14 => (if v15 ≤ (v6 + v9) then (g_X1_shortenBehind_L4 t0 a1 n a2 (a3 + (1 : Int32)) M14) else (am_b (g_X9_put (t0 + 4) 40 v3 (v6 + v9) M14) (fun _ M17 => (g_X1_shortenBehind_L4 t0 a1 n (1 : Int32) (a3 + (1 : Int32)) M17)))))) else (g_X1_shortenBehind_L4 t0 a1 n a2 (a3 + (1 : Int32)) M11))))))))))))
set_option maxHeartbeats 4000000 in
set_option maxRecDepth 100000 in
theorem cl_X1_shortenBehind_L4 {l : Launch} {p : Program} {e : Env} {s : State} {m : MethodId} {args : Array Value} {below : List Frame} {meth : Method} {c : Code} {Q : State → Prop} {D : va_G} {E : Nat → ClassId} {z : Nat} (F : am_F p s m args meth c cX1_shortenBehind 6 RX1 D E z) (t0 : Nat) (y0 : am_ly t0 = (1, 0)) (a1 : Int32) : ∀ (n : Nat) (a2 : Int32) (a3 : Int32) (M : am_M) (x : Int32) (M1 : am_M), g_X1_shortenBehind_L4 t0 a1 n a2 a3 M = some (x, M1) → (am_W p l e rm_X1_shortenBehind s m args below meth c Q 6 D E z 0 0 M1 87 [(2, .int x)] []) → am_W p l e rm_X1_shortenBehind s m args below meth c Q 6 D E z 0 0 M 4 [(0, .ref (z + t0)), (1, .int a1), (2, .int a2), (3, .int a3)] [] := by
  intro n
  induction n with
  | zero => intro a2 a3 M x M1 h K; cases h
  | succ n ih =>
    intro a2 a3 M x M1 h K
    rw [g_X1_shortenBehind_L4] at h
    refine am_iload_n F 3 dX1_shortenBehind_4 rfl rfl ?_
    refine am_bipush F (v := (7 : Int32)) dX1_shortenBehind_5 (by decide) ?_
    refine am_icmp_ge F (tgt := 87) dX1_shortenBehind_7 (by decide) (fun c21 => ?_) (fun c21 => ?_)
    · have h := (if_pos c21).symm.trans h
      cases h
      exact am_sub (lv' := [(2, .int a2)]) [2] rfl (K)
    · have h := (if_neg c21).symm.trans h
      refine am_aload_n F 0 dX1_shortenBehind_10 rfl rfl ?_
      refine gf_X1_15 F y0 dX1_shortenBehind_11 ?_
      refine am_iload_n F 1 dX1_shortenBehind_14 rfl rfl ?_
      refine am_bipush F (v := (7 : Int32)) dX1_shortenBehind_15 (by decide) ?_
      refine am_imul F dX1_shortenBehind_17 ?_
      refine am_iload_n F 3 dX1_shortenBehind_18 rfl rfl ?_
      refine am_iadd F dX1_shortenBehind_19 ?_
      obtain ⟨v3, M2, h1, h⟩ := am_bE h
      refine am_callSNi F [.ref (z + (t0 + 2)), .int ((a1 * (7 : Int32)) + a3)] cw_X1_47  (c_X9_at l D E z (t0 + 2) 280 (lyf_1_links y0) ((a1 * (7 : Int32)) + a3) M v3 M2 h1) yn_X9_at rfl ⟨Nat.le_of_ble_eq_true rfl, Nat.le_of_ble_eq_true rfl⟩ rfl rfl (Nat.le_of_ble_eq_true rfl) ⟨Nat.zero_le _, Nat.zero_le _⟩ dX1_shortenBehind_20 rfl ?_
      refine am_istore F [(4, .int v3), (0, .ref (z + t0)), (1, .int a1), (2, .int a2), (3, .int a3)] dX1_shortenBehind_23 (by decide) rfl ?_
      refine am_aload_n F 1 dX1_shortenBehind_25 rfl rfl ?_
      refine gf_X1_21 F y0 dX1_shortenBehind_26 ?_
      refine am_iload_n F 2 dX1_shortenBehind_29 rfl rfl ?_
      obtain ⟨v6, M5, h4, h⟩ := am_bE h
      refine am_callSNi F [.ref (z + (t0 + 4)), .int a1] cw_X1_47  (c_X9_at l D E z (t0 + 4) 40 (lyf_1_distances y0) a1 M2 v6 M5 h4) yn_X9_at rfl ⟨Nat.le_of_ble_eq_true rfl, Nat.le_of_ble_eq_true rfl⟩ rfl rfl (Nat.le_of_ble_eq_true rfl) ⟨Nat.zero_le _, Nat.zero_le _⟩ dX1_shortenBehind_30 rfl ?_
      refine am_iload_n F 4 dX1_shortenBehind_33 rfl rfl ?_
      obtain ⟨v9, M8, h7, h⟩ := am_bE h
      refine am_callSNi F [.int a3] cw_X1_67  (c_X9_ticksOf l D E z a3 M5 v9 M8 h7) yn_X9_ticksOf rfl ⟨Nat.le_of_ble_eq_true rfl, Nat.le_of_ble_eq_true rfl⟩ rfl rfl (Nat.le_of_ble_eq_true rfl) ⟨Nat.zero_le _, Nat.zero_le _⟩ dX1_shortenBehind_34 rfl ?_
      refine am_iadd F dX1_shortenBehind_37 ?_
      refine am_istore F [(5, .int (v6 + v9)), (4, .int v3), (0, .ref (z + t0)), (1, .int a1), (2, .int a2), (3, .int a3)] dX1_shortenBehind_38 (by decide) rfl ?_
      refine am_iload F 1 dX1_shortenBehind_40 rfl ?_
      refine am_if_lt F (tgt := 81) dX1_shortenBehind_42 (by decide) (fun c20 => ?_) (fun c20 => ?_)
      · have h := (if_pos c20).symm.trans h
        refine am_iinc F [(3, .int (a3 + (1 : Int32))), (5, .int (v6 + v9)), (4, .int v3), (0, .ref (z + t0)), (1, .int a1), (2, .int a2)] 5 dX1_shortenBehind_81 (by decide) rfl rfl rfl ?_
        refine am_goto F (tgt := 4) dX1_shortenBehind_84 (by decide) ?_
        exact am_sub (lv' := [(0, .ref (z + t0)), (1, .int a1), (2, .int a2), (3, .int (a3 + (1 : Int32)))]) [3, 4, 5, 0] rfl (ih a2 (a3 + (1 : Int32)) M8 _ _ h K)
      · have h := (if_neg c20).symm.trans h
        refine am_aload_n F 2 dX1_shortenBehind_45 rfl rfl ?_
        refine am_iload F 1 dX1_shortenBehind_46 rfl ?_
        obtain ⟨v12, M11, h10, h⟩ := am_bE h
        refine am_callVi F [.int v3] y0 (by decide) rfl cw_X1_51 (c_X1_isWall l D E z t0 y0 v3 M8 v12 M11 h10) yn_X1_isWall rfl ⟨Nat.le_of_ble_eq_true rfl, Nat.le_of_ble_eq_true rfl⟩ rfl rfl (Nat.le_of_ble_eq_true rfl) ⟨Nat.zero_le _, Nat.zero_le _⟩ dX1_shortenBehind_48 rfl ?_
        refine am_if_ne F (tgt := 81) dX1_shortenBehind_51 (by decide) (fun c19 => ?_) (fun c19 => ?_)
        · have h := (if_neg c19).symm.trans h
          refine am_iinc F [(3, .int (a3 + (1 : Int32))), (5, .int (v6 + v9)), (4, .int v3), (0, .ref (z + t0)), (1, .int a1), (2, .int a2)] 5 dX1_shortenBehind_81 (by decide) rfl rfl rfl ?_
          refine am_goto F (tgt := 4) dX1_shortenBehind_84 (by decide) ?_
          exact am_sub (lv' := [(0, .ref (z + t0)), (1, .int a1), (2, .int a2), (3, .int (a3 + (1 : Int32)))]) [3, 4, 5, 0] rfl (ih a2 (a3 + (1 : Int32)) M11 _ _ h K)
        · have h := (if_pos c19).symm.trans h
          refine am_iload F 0 dX1_shortenBehind_54 rfl ?_
          refine am_aload_n F 2 dX1_shortenBehind_56 rfl rfl ?_
          refine gf_X1_21 F y0 dX1_shortenBehind_57 ?_
          refine am_iload F 1 dX1_shortenBehind_60 rfl ?_
          obtain ⟨v15, M14, h13, h⟩ := am_bE h
          refine am_callSNi F [.ref (z + (t0 + 4)), .int v3] cw_X1_47  (c_X9_at l D E z (t0 + 4) 40 (lyf_1_distances y0) v3 M11 v15 M14 h13) yn_X9_at rfl ⟨Nat.le_of_ble_eq_true rfl, Nat.le_of_ble_eq_true rfl⟩ rfl rfl (Nat.le_of_ble_eq_true rfl) ⟨Nat.zero_le _, Nat.zero_le _⟩ dX1_shortenBehind_62 rfl ?_
          refine am_icmp_ge F (tgt := 81) dX1_shortenBehind_65 (by decide) (fun c18 => ?_) (fun c18 => ?_)
          · have h := (if_pos c18).symm.trans h
            refine am_iinc F [(3, .int (a3 + (1 : Int32))), (5, .int (v6 + v9)), (4, .int v3), (0, .ref (z + t0)), (1, .int a1), (2, .int a2)] 5 dX1_shortenBehind_81 (by decide) rfl rfl rfl ?_
            refine am_goto F (tgt := 4) dX1_shortenBehind_84 (by decide) ?_
            exact am_sub (lv' := [(0, .ref (z + t0)), (1, .int a1), (2, .int a2), (3, .int (a3 + (1 : Int32)))]) [3, 4, 5, 0] rfl (ih a2 (a3 + (1 : Int32)) M14 _ _ h K)
          · have h := (if_neg c18).symm.trans h
            refine am_aload_n F 2 dX1_shortenBehind_68 rfl rfl ?_
            refine gf_X1_21 F y0 dX1_shortenBehind_69 ?_
            refine am_iload F 1 dX1_shortenBehind_72 rfl ?_
            refine am_iload F 0 dX1_shortenBehind_74 rfl ?_
            obtain ⟨_, M17, h16, h⟩ := am_bE h
            refine am_callSNv F [.ref (z + (t0 + 4)), .int v3, .int (v6 + v9)] cw_X1_39  (c_X9_put l D E z (t0 + 4) 40 (lyf_1_distances y0) v3 (v6 + v9) M14 M17 h16) yn_X9_put rfl ⟨Nat.le_of_ble_eq_true rfl, Nat.le_of_ble_eq_true rfl⟩ rfl rfl (Nat.le_of_ble_eq_true rfl) ⟨Nat.zero_le _, Nat.zero_le _⟩ dX1_shortenBehind_76 rfl ?_
            refine am_iconst F (v := (1 : Int32)) dX1_shortenBehind_79 (by decide) ?_
            refine am_istore_n F [(2, .int (1 : Int32)), (5, .int (v6 + v9)), (4, .int v3), (0, .ref (z + t0)), (1, .int a1), (3, .int a3)] dX1_shortenBehind_80 rfl (by decide) rfl ?_
            refine am_iinc F [(3, .int (a3 + (1 : Int32))), (2, .int (1 : Int32)), (5, .int (v6 + v9)), (4, .int v3), (0, .ref (z + t0)), (1, .int a1)] 5 dX1_shortenBehind_81 (by decide) rfl rfl rfl ?_
            refine am_goto F (tgt := 4) dX1_shortenBehind_84 (by decide) ?_
            exact am_sub (lv' := [(0, .ref (z + t0)), (1, .int a1), (2, .int (1 : Int32)), (3, .int (a3 + (1 : Int32)))]) [4, 5, 1, 0] rfl (ih (1 : Int32) (a3 + (1 : Int32)) M17 _ _ h K)
def g_X1_shortenBehind (t0 : Nat) (a1 : Int32) (M : am_M) : Option (Int32 × am_M) := (am_b (g_X1_shortenBehind_L4 t0 a1 am_fu (0 : Int32) (1 : Int32) M) (fun x22 M23 => (am_c (x22 = 0 ∨ x22 = 1) (some (x22, M23)))))
set_option maxHeartbeats 4000000 in
set_option maxRecDepth 100000 in
theorem c_X1_shortenBehind (l : Launch) (D : va_G) (E : Nat → ClassId) (z : Nat) (t0 : Nat) (y0 : am_ly t0 = (1, 0)) (a1 : Int32) (M : am_M) (r0 : Int32) (M1 : am_M) (h : g_X1_shortenBehind t0 a1 M = some (r0, M1)) : am_Mi l yX1_shortenBehind cX1_shortenBehind 6 (some .boolean) rm_X1_shortenBehind D E z [.ref (z + t0), .int a1] M r0 M1 := by
  unfold g_X1_shortenBehind at h
  refine am_of (own := RX1) (by decide +kernel) rfl (by exact Nat.le_of_ble_eq_true rfl) ?_
  intro p e s m args below meth c F hr
  show am_W p l e rm_X1_shortenBehind s m args below meth c _ 6 D E z 0 0 M 0 [(0, .ref (z + t0)), (1, .int a1)] []
  refine am_iconst F (v := (0 : Int32)) dX1_shortenBehind_0 (by decide) ?_
  refine am_istore_n F [(2, .int (0 : Int32)), (0, .ref (z + t0)), (1, .int a1)] dX1_shortenBehind_1 rfl (by decide) rfl ?_
  refine am_iconst F (v := (1 : Int32)) dX1_shortenBehind_2 (by decide) ?_
  refine am_istore_n F [(3, .int (1 : Int32)), (2, .int (0 : Int32)), (0, .ref (z + t0)), (1, .int a1)] dX1_shortenBehind_3 rfl (by decide) rfl ?_
  obtain ⟨x22, M23, h24, h⟩ := am_bE h
  refine am_sub (lv' := [(0, .ref (z + t0)), (1, .int a1), (2, .int (0 : Int32)), (3, .int (1 : Int32))]) [2, 3, 1, 0] rfl (cl_X1_shortenBehind_L4 F t0 y0 a1 am_fu (0 : Int32) (1 : Int32) M x22 M23 h24 ?_)
  refine am_iload_n F 0 dX1_shortenBehind_87 rfl rfl ?_
  obtain ⟨q25, h⟩ := am_cE h
  exact am_zret F hr q25 h dX1_shortenBehind_88
/-! AisleScheduler$Floor.measureFrom(I)V -/
abbrev rm_X1_measureFrom : Room := { frames := 4, cells := 0, slots := 0, locals := 91 }
theorem yn_X1_measureFrom : am_yn yX1_measureFrom 1 := ⟨⟨by decide +kernel, by decide +kernel⟩, by decide +kernel⟩
def g_X1_measureFrom_L46 (t0 : Nat) (a3 : Int32) : Nat → Int32 → Int32 → am_M → Option ((Int32) × am_M)
  | 0, _, _, _ => none
  | n + 1, a2, a4, M => (if (40 : Int32) ≤ a4 then (some (a2, M)) else (am_b (g_X9_at (t0 + 4) 40 a4 M) (fun v10 M9 => (if (1000000 : Int32) ≤ v10 then (g_X1_measureFrom_L46 t0 a3 n a2 (a4 + (1 : Int32)) M9) else (am_b (g_X1_shortenBehind t0 a4 M9) (fun v13 M12 => (if v13 = (0 : Int32) then (g_X1_measureFrom_L46 t0 a3 n a2 (a4 + (1 : Int32)) M12) else (g_X1_measureFrom_L46 t0 a3 n (1 : Int32) (a4 + (1 : Int32)) M12))))))))
set_option maxHeartbeats 4000000 in
set_option maxRecDepth 100000 in
theorem cl_X1_measureFrom_L46 {l : Launch} {p : Program} {e : Env} {s : State} {m : MethodId} {args : Array Value} {below : List Frame} {meth : Method} {c : Code} {Q : State → Prop} {D : va_G} {E : Nat → ClassId} {z : Nat} (F : am_F p s m args meth c cX1_measureFrom 5 RX1 D E z) (t0 : Nat) (y0 : am_ly t0 = (1, 0)) (a3 : Int32) : ∀ (n : Nat) (a2 : Int32) (a4 : Int32) (M : am_M) (x : Int32) (M1 : am_M), g_X1_measureFrom_L46 t0 a3 n a2 a4 M = some (x, M1) → (am_W p l e rm_X1_measureFrom s m args below meth c Q 5 D E z 0 0 M1 84 [(0, .ref (z + t0)), (2, .int x), (3, .int a3)] []) → am_W p l e rm_X1_measureFrom s m args below meth c Q 5 D E z 0 0 M 46 [(0, .ref (z + t0)), (2, .int a2), (3, .int a3), (4, .int a4)] [] := by
  intro n
  induction n with
  | zero => intro a2 a4 M x M1 h K; cases h
  | succ n ih =>
    intro a2 a4 M x M1 h K
    rw [g_X1_measureFrom_L46] at h
    refine am_iload F 3 dX1_measureFrom_46 rfl ?_
    refine am_bipush F (v := (40 : Int32)) dX1_measureFrom_48 (by decide) ?_
    refine am_icmp_ge F (tgt := 84) dX1_measureFrom_50 (by decide) (fun c16 => ?_) (fun c16 => ?_)
    · have h := (if_pos c16).symm.trans h
      cases h
      exact am_sub (lv' := [(0, .ref (z + t0)), (2, .int a2), (3, .int a3)]) [0, 1, 2] rfl (K)
    · have h := (if_neg c16).symm.trans h
      refine am_aload_n F 0 dX1_measureFrom_53 rfl rfl ?_
      refine gf_X1_21 F y0 dX1_measureFrom_54 ?_
      refine am_iload F 3 dX1_measureFrom_57 rfl ?_
      obtain ⟨v10, M9, h8, h⟩ := am_bE h
      refine am_callSNi F [.ref (z + (t0 + 4)), .int a4] cw_X1_47  (c_X9_at l D E z (t0 + 4) 40 (lyf_1_distances y0) a4 M v10 M9 h8) yn_X9_at rfl ⟨Nat.le_of_ble_eq_true rfl, Nat.le_of_ble_eq_true rfl⟩ rfl rfl (Nat.le_of_ble_eq_true rfl) ⟨Nat.zero_le _, Nat.zero_le _⟩ dX1_measureFrom_59 rfl ?_
      refine am_ldc F (v := (1000000 : Int32)) dX1_measureFrom_62 wd_838 ?_
      refine am_icmp_ge F (tgt := 78) dX1_measureFrom_64 (by decide) (fun c15 => ?_) (fun c15 => ?_)
      · have h := (if_pos c15).symm.trans h
        refine am_iinc F [(4, .int (a4 + (1 : Int32))), (0, .ref (z + t0)), (2, .int a2), (3, .int a3)] 3 dX1_measureFrom_78 (by decide) rfl rfl rfl ?_
        refine am_goto F (tgt := 46) dX1_measureFrom_81 (by decide) ?_
        exact am_sub (lv' := [(0, .ref (z + t0)), (2, .int a2), (3, .int a3), (4, .int (a4 + (1 : Int32)))]) [1, 2, 3, 0] rfl (ih a2 (a4 + (1 : Int32)) M9 _ _ h K)
      · have h := (if_neg c15).symm.trans h
        refine am_aload_n F 0 dX1_measureFrom_67 rfl rfl ?_
        refine am_iload F 3 dX1_measureFrom_68 rfl ?_
        obtain ⟨v13, M12, h11, h⟩ := am_bE h
        refine am_callVi F [.int a4] y0 (by decide) rfl cw_X1_64 (c_X1_shortenBehind l D E z t0 y0 a4 M9 v13 M12 h11) yn_X1_shortenBehind rfl ⟨Nat.le_of_ble_eq_true rfl, Nat.le_of_ble_eq_true rfl⟩ rfl rfl (Nat.le_of_ble_eq_true rfl) ⟨Nat.zero_le _, Nat.zero_le _⟩ dX1_measureFrom_70 rfl ?_
        refine am_if_eq F (tgt := 78) dX1_measureFrom_73 (by decide) (fun c14 => ?_) (fun c14 => ?_)
        · have h := (if_pos c14).symm.trans h
          refine am_iinc F [(4, .int (a4 + (1 : Int32))), (0, .ref (z + t0)), (2, .int a2), (3, .int a3)] 3 dX1_measureFrom_78 (by decide) rfl rfl rfl ?_
          refine am_goto F (tgt := 46) dX1_measureFrom_81 (by decide) ?_
          exact am_sub (lv' := [(0, .ref (z + t0)), (2, .int a2), (3, .int a3), (4, .int (a4 + (1 : Int32)))]) [1, 2, 3, 0] rfl (ih a2 (a4 + (1 : Int32)) M12 _ _ h K)
        · have h := (if_neg c14).symm.trans h
          refine am_iconst F (v := (1 : Int32)) dX1_measureFrom_76 (by decide) ?_
          refine am_istore_n F [(2, .int (1 : Int32)), (0, .ref (z + t0)), (3, .int a3), (4, .int a4)] dX1_measureFrom_77 rfl (by decide) rfl ?_
          refine am_iinc F [(4, .int (a4 + (1 : Int32))), (2, .int (1 : Int32)), (0, .ref (z + t0)), (3, .int a3)] 3 dX1_measureFrom_78 (by decide) rfl rfl rfl ?_
          refine am_goto F (tgt := 46) dX1_measureFrom_81 (by decide) ?_
          exact am_sub (lv' := [(0, .ref (z + t0)), (2, .int (1 : Int32)), (3, .int a3), (4, .int (a4 + (1 : Int32)))]) [2, 1, 3, 0] rfl (ih (1 : Int32) (a4 + (1 : Int32)) M12 _ _ h K)
def g_X1_measureFrom_L31 (t0 : Nat) : Nat → Int32 → Int32 → am_M → Option ((Unit) × am_M)
  | 0, _, _, _ => none
  | n + 1, a2, a3, M => (if a2 = (0 : Int32) then (some ((), M)) else (if (40 : Int32) ≤ a3 then (some ((), M)) else (am_b (g_X1_measureFrom_L46 t0 a3 am_fu (0 : Int32) (0 : Int32) M) (fun x17 M18 => (g_X1_measureFrom_L31 t0 n x17 (a3 + (1 : Int32)) M18)))))
set_option maxHeartbeats 4000000 in
set_option maxRecDepth 100000 in
theorem cl_X1_measureFrom_L31 {l : Launch} {p : Program} {e : Env} {s : State} {m : MethodId} {args : Array Value} {below : List Frame} {meth : Method} {c : Code} {Q : State → Prop} {D : va_G} {E : Nat → ClassId} {z : Nat} (F : am_F p s m args meth c cX1_measureFrom 5 RX1 D E z) (t0 : Nat) (y0 : am_ly t0 = (1, 0)) : ∀ (n : Nat) (a2 : Int32) (a3 : Int32) (M : am_M) (x : Unit) (M1 : am_M), g_X1_measureFrom_L31 t0 n a2 a3 M = some (x, M1) → (am_W p l e rm_X1_measureFrom s m args below meth c Q 5 D E z 0 0 M1 90 [] []) → am_W p l e rm_X1_measureFrom s m args below meth c Q 5 D E z 0 0 M 31 [(0, .ref (z + t0)), (2, .int a2), (3, .int a3)] [] := by
  intro n
  induction n with
  | zero => intro a2 a3 M x M1 h K; cases h
  | succ n ih =>
    intro a2 a3 M x M1 h K
    rw [g_X1_measureFrom_L31] at h
    refine am_iload_n F 1 dX1_measureFrom_31 rfl rfl ?_
    refine am_if_eq F (tgt := 90) dX1_measureFrom_32 (by decide) (fun c21 => ?_) (fun c21 => ?_)
    · have h := (if_pos c21).symm.trans h
      cases h
      exact am_sub (lv' := []) [] rfl (K)
    · have h := (if_neg c21).symm.trans h
      refine am_iload_n F 2 dX1_measureFrom_35 rfl rfl ?_
      refine am_bipush F (v := (40 : Int32)) dX1_measureFrom_36 (by decide) ?_
      refine am_icmp_ge F (tgt := 90) dX1_measureFrom_38 (by decide) (fun c20 => ?_) (fun c20 => ?_)
      · have h := (if_pos c20).symm.trans h
        cases h
        exact am_sub (lv' := []) [] rfl (K)
      · have h := (if_neg c20).symm.trans h
        refine am_iconst F (v := (0 : Int32)) dX1_measureFrom_41 (by decide) ?_
        refine am_istore_n F [(2, .int (0 : Int32)), (0, .ref (z + t0)), (3, .int a3)] dX1_measureFrom_42 rfl (by decide) rfl ?_
        refine am_iconst F (v := (0 : Int32)) dX1_measureFrom_43 (by decide) ?_
        refine am_istore F [(4, .int (0 : Int32)), (2, .int (0 : Int32)), (0, .ref (z + t0)), (3, .int a3)] dX1_measureFrom_44 (by decide) rfl ?_
        obtain ⟨x17, M18, h19, h⟩ := am_bE h
        refine am_sub (lv' := [(0, .ref (z + t0)), (2, .int (0 : Int32)), (3, .int a3), (4, .int (0 : Int32))]) [2, 1, 3, 0] rfl (cl_X1_measureFrom_L46 F t0 y0 a3 am_fu (0 : Int32) (0 : Int32) M x17 M18 h19 ?_)
        refine am_iinc F [(3, .int (a3 + (1 : Int32))), (0, .ref (z + t0)), (2, .int x17)] 2 dX1_measureFrom_84 (by decide) rfl rfl rfl ?_
        refine am_goto F (tgt := 31) dX1_measureFrom_87 (by decide) ?_
        exact am_sub (lv' := [(0, .ref (z + t0)), (2, .int x17), (3, .int (a3 + (1 : Int32)))]) [1, 2, 0] rfl (ih x17 (a3 + (1 : Int32)) M18 _ _ h K)
def g_X1_measureFrom (t0 : Nat) (a1 : Int32) (M : am_M) : Option (Unit × am_M) := (am_b (g_X9_fill (t0 + 4) 40 (1000000 : Int32) M) (fun _ M2 => (am_b (g_X1_isWall t0 a1 M2) (fun v5 M4 => (if v5 = (0 : Int32) then (am_b (g_X9_put (t0 + 4) 40 a1 (0 : Int32) M4) (fun _ M7 => (am_b (g_X1_measureFrom_L31 t0 am_fu (1 : Int32) (0 : Int32) M7) (fun x22 M23 => (some ((), M23)))))) else (some ((), M4)))))))
set_option maxHeartbeats 4000000 in
set_option maxRecDepth 100000 in
theorem c_X1_measureFrom (l : Launch) (D : va_G) (E : Nat → ClassId) (z : Nat) (t0 : Nat) (y0 : am_ly t0 = (1, 0)) (a1 : Int32) (M : am_M)  (M1 : am_M) (h : g_X1_measureFrom t0 a1 M = some ((), M1)) : am_Mv l yX1_measureFrom cX1_measureFrom 5 none rm_X1_measureFrom D E z [.ref (z + t0), .int a1] M M1 := by
  unfold g_X1_measureFrom at h
  refine am_of (own := RX1) (by decide +kernel) rfl (by exact Nat.le_of_ble_eq_true rfl) ?_
  intro p e s m args below meth c F hr
  show am_W p l e rm_X1_measureFrom s m args below meth c _ 5 D E z 0 0 M 0 [(0, .ref (z + t0)), (1, .int a1)] []
  refine am_aload_n F 0 dX1_measureFrom_0 rfl rfl ?_
  refine gf_X1_21 F y0 dX1_measureFrom_1 ?_
  refine am_ldc F (v := (1000000 : Int32)) dX1_measureFrom_4 wd_838 ?_
  obtain ⟨_, M2, h1, h⟩ := am_bE h
  refine am_callSNv F [.ref (z + (t0 + 4)), .int (1000000 : Int32)] cw_X1_27  (c_X9_fill l D E z (t0 + 4) 40 (lyf_1_distances y0) (1000000 : Int32) M M2 h1) yn_X9_fill rfl ⟨Nat.le_of_ble_eq_true rfl, Nat.le_of_ble_eq_true rfl⟩ rfl rfl (Nat.le_of_ble_eq_true rfl) ⟨Nat.zero_le _, Nat.zero_le _⟩ dX1_measureFrom_6 rfl ?_
  refine am_aload_n F 0 dX1_measureFrom_9 rfl rfl ?_
  refine am_iload_n F 1 dX1_measureFrom_10 rfl rfl ?_
  obtain ⟨v5, M4, h3, h⟩ := am_bE h
  refine am_callVi F [.int a1] y0 (by decide) rfl cw_X1_51 (c_X1_isWall l D E z t0 y0 a1 M2 v5 M4 h3) yn_X1_isWall rfl ⟨Nat.le_of_ble_eq_true rfl, Nat.le_of_ble_eq_true rfl⟩ rfl rfl (Nat.le_of_ble_eq_true rfl) ⟨Nat.zero_le _, Nat.zero_le _⟩ dX1_measureFrom_11 rfl ?_
  refine am_if_eq F (tgt := 18) dX1_measureFrom_14 (by decide) (fun c25 => ?_) (fun c25 => ?_)
  · have h := (if_pos c25).symm.trans h
    refine am_aload_n F 0 dX1_measureFrom_18 rfl rfl ?_
    refine gf_X1_21 F y0 dX1_measureFrom_19 ?_
    refine am_iload_n F 1 dX1_measureFrom_22 rfl rfl ?_
    refine am_iconst F (v := (0 : Int32)) dX1_measureFrom_23 (by decide) ?_
    obtain ⟨_, M7, h6, h⟩ := am_bE h
    refine am_callSNv F [.ref (z + (t0 + 4)), .int a1, .int (0 : Int32)] cw_X1_39  (c_X9_put l D E z (t0 + 4) 40 (lyf_1_distances y0) a1 (0 : Int32) M4 M7 h6) yn_X9_put rfl ⟨Nat.le_of_ble_eq_true rfl, Nat.le_of_ble_eq_true rfl⟩ rfl rfl (Nat.le_of_ble_eq_true rfl) ⟨Nat.zero_le _, Nat.zero_le _⟩ dX1_measureFrom_24 rfl ?_
    refine am_iconst F (v := (1 : Int32)) dX1_measureFrom_27 (by decide) ?_
    refine am_istore_n F [(2, .int (1 : Int32)), (0, .ref (z + t0)), (1, .int a1)] dX1_measureFrom_28 rfl (by decide) rfl ?_
    refine am_iconst F (v := (0 : Int32)) dX1_measureFrom_29 (by decide) ?_
    refine am_istore_n F [(3, .int (0 : Int32)), (2, .int (1 : Int32)), (0, .ref (z + t0)), (1, .int a1)] dX1_measureFrom_30 rfl (by decide) rfl ?_
    obtain ⟨x22, M23, h24, h⟩ := am_bE h
    refine am_sub (lv' := [(0, .ref (z + t0)), (2, .int (1 : Int32)), (3, .int (0 : Int32))]) [2, 1, 0] rfl (cl_X1_measureFrom_L31 F t0 y0 am_fu (1 : Int32) (0 : Int32) M7 x22 M23 h24 ?_)
    exact am_vret F hr h dX1_measureFrom_90
  · have h := (if_neg c25).symm.trans h
    exact am_vret F hr h dX1_measureFrom_17
/-! AisleScheduler$Floor.reachedFrom(I)I -/
abbrev rm_X1_reachedFrom : Room := { frames := 5, cells := 0, slots := 0, locals := 115 }
theorem yn_X1_reachedFrom : am_yn yX1_reachedFrom 1 := ⟨⟨by decide +kernel, by decide +kernel⟩, by decide +kernel⟩
def g_X1_reachedFrom_L9 (t0 : Nat) : Nat → Int32 → Int32 → am_M → Option ((Int32) × am_M)
  | 0, _, _, _ => none
  | n + 1, a2, a3, M => (if (40 : Int32) ≤ a3 then (some (a2, M)) else (am_b (g_X9_at (t0 + 4) 40 a3 M) (fun v5 M4 => (if (1000000 : Int32) ≤ v5 then (g_X1_reachedFrom_L9 t0 n a2 (a3 + (1 : Int32)) M4) else (g_X1_reachedFrom_L9 t0 n (a2 + (1 : Int32)) (a3 + (1 : Int32)) M4)))))
set_option maxHeartbeats 4000000 in
set_option maxRecDepth 100000 in
theorem cl_X1_reachedFrom_L9 {l : Launch} {p : Program} {e : Env} {s : State} {m : MethodId} {args : Array Value} {below : List Frame} {meth : Method} {c : Code} {Q : State → Prop} {D : va_G} {E : Nat → ClassId} {z : Nat} (F : am_F p s m args meth c cX1_reachedFrom 4 RX1 D E z) (t0 : Nat) (y0 : am_ly t0 = (1, 0)) : ∀ (n : Nat) (a2 : Int32) (a3 : Int32) (M : am_M) (x : Int32) (M1 : am_M), g_X1_reachedFrom_L9 t0 n a2 a3 M = some (x, M1) → (am_W p l e rm_X1_reachedFrom s m args below meth c Q 4 D E z 0 0 M1 37 [(2, .int x)] []) → am_W p l e rm_X1_reachedFrom s m args below meth c Q 4 D E z 0 0 M 9 [(0, .ref (z + t0)), (2, .int a2), (3, .int a3)] [] := by
  intro n
  induction n with
  | zero => intro a2 a3 M x M1 h K; cases h
  | succ n ih =>
    intro a2 a3 M x M1 h K
    rw [g_X1_reachedFrom_L9] at h
    refine am_iload_n F 2 dX1_reachedFrom_9 rfl rfl ?_
    refine am_bipush F (v := (40 : Int32)) dX1_reachedFrom_10 (by decide) ?_
    refine am_icmp_ge F (tgt := 37) dX1_reachedFrom_12 (by decide) (fun c7 => ?_) (fun c7 => ?_)
    · have h := (if_pos c7).symm.trans h
      cases h
      exact am_sub (lv' := [(2, .int a2)]) [1] rfl (K)
    · have h := (if_neg c7).symm.trans h
      refine am_aload_n F 0 dX1_reachedFrom_15 rfl rfl ?_
      refine gf_X1_21 F y0 dX1_reachedFrom_16 ?_
      refine am_iload_n F 2 dX1_reachedFrom_19 rfl rfl ?_
      obtain ⟨v5, M4, h3, h⟩ := am_bE h
      refine am_callSNi F [.ref (z + (t0 + 4)), .int a3] cw_X1_47  (c_X9_at l D E z (t0 + 4) 40 (lyf_1_distances y0) a3 M v5 M4 h3) yn_X9_at rfl ⟨Nat.le_of_ble_eq_true rfl, Nat.le_of_ble_eq_true rfl⟩ rfl rfl (Nat.le_of_ble_eq_true rfl) ⟨Nat.zero_le _, Nat.zero_le _⟩ dX1_reachedFrom_20 rfl ?_
      refine am_ldc F (v := (1000000 : Int32)) dX1_reachedFrom_23 wd_838 ?_
      refine am_icmp_ge F (tgt := 31) dX1_reachedFrom_25 (by decide) (fun c6 => ?_) (fun c6 => ?_)
      · have h := (if_pos c6).symm.trans h
        refine am_iinc F [(3, .int (a3 + (1 : Int32))), (0, .ref (z + t0)), (2, .int a2)] 2 dX1_reachedFrom_31 (by decide) rfl rfl rfl ?_
        refine am_goto F (tgt := 9) dX1_reachedFrom_34 (by decide) ?_
        exact am_sub (lv' := [(0, .ref (z + t0)), (2, .int a2), (3, .int (a3 + (1 : Int32)))]) [1, 2, 0] rfl (ih a2 (a3 + (1 : Int32)) M4 _ _ h K)
      · have h := (if_neg c6).symm.trans h
        refine am_iinc F [(2, .int (a2 + (1 : Int32))), (0, .ref (z + t0)), (3, .int a3)] 1 dX1_reachedFrom_28 (by decide) rfl rfl rfl ?_
        refine am_iinc F [(3, .int (a3 + (1 : Int32))), (2, .int (a2 + (1 : Int32))), (0, .ref (z + t0))] 2 dX1_reachedFrom_31 (by decide) rfl rfl rfl ?_
        refine am_goto F (tgt := 9) dX1_reachedFrom_34 (by decide) ?_
        exact am_sub (lv' := [(0, .ref (z + t0)), (2, .int (a2 + (1 : Int32))), (3, .int (a3 + (1 : Int32)))]) [2, 1, 0] rfl (ih (a2 + (1 : Int32)) (a3 + (1 : Int32)) M4 _ _ h K)
def g_X1_reachedFrom (t0 : Nat) (a1 : Int32) (M : am_M) : Option (Int32 × am_M) := (am_b (g_X1_measureFrom t0 a1 M) (fun _ M2 => (am_b (g_X1_reachedFrom_L9 t0 am_fu (0 : Int32) (0 : Int32) M2) (fun x8 M9 => (some (x8, M9))))))
set_option maxHeartbeats 4000000 in
set_option maxRecDepth 100000 in
theorem c_X1_reachedFrom (l : Launch) (D : va_G) (E : Nat → ClassId) (z : Nat) (t0 : Nat) (y0 : am_ly t0 = (1, 0)) (a1 : Int32) (M : am_M) (r0 : Int32) (M1 : am_M) (h : g_X1_reachedFrom t0 a1 M = some (r0, M1)) : am_Mi l yX1_reachedFrom cX1_reachedFrom 4 (some .int) rm_X1_reachedFrom D E z [.ref (z + t0), .int a1] M r0 M1 := by
  unfold g_X1_reachedFrom at h
  refine am_of (own := RX1) (by decide +kernel) rfl (by exact Nat.le_of_ble_eq_true rfl) ?_
  intro p e s m args below meth c F hr
  show am_W p l e rm_X1_reachedFrom s m args below meth c _ 4 D E z 0 0 M 0 [(0, .ref (z + t0)), (1, .int a1)] []
  refine am_aload_n F 0 dX1_reachedFrom_0 rfl rfl ?_
  refine am_iload_n F 1 dX1_reachedFrom_1 rfl rfl ?_
  obtain ⟨_, M2, h1, h⟩ := am_bE h
  refine am_callVv F [.int a1] y0 (by decide) rfl cw_X1_59 (c_X1_measureFrom l D E z t0 y0 a1 M M2 h1) yn_X1_measureFrom rfl ⟨Nat.le_of_ble_eq_true rfl, Nat.le_of_ble_eq_true rfl⟩ rfl rfl (Nat.le_of_ble_eq_true rfl) ⟨Nat.zero_le _, Nat.zero_le _⟩ dX1_reachedFrom_2 rfl ?_
  refine am_iconst F (v := (0 : Int32)) dX1_reachedFrom_5 (by decide) ?_
  refine am_istore_n F [(2, .int (0 : Int32)), (0, .ref (z + t0)), (1, .int a1)] dX1_reachedFrom_6 rfl (by decide) rfl ?_
  refine am_iconst F (v := (0 : Int32)) dX1_reachedFrom_7 (by decide) ?_
  refine am_istore_n F [(3, .int (0 : Int32)), (2, .int (0 : Int32)), (0, .ref (z + t0)), (1, .int a1)] dX1_reachedFrom_8 rfl (by decide) rfl ?_
  obtain ⟨x8, M9, h10, h⟩ := am_bE h
  refine am_sub (lv' := [(0, .ref (z + t0)), (2, .int (0 : Int32)), (3, .int (0 : Int32))]) [2, 1, 0] rfl (cl_X1_reachedFrom_L9 F t0 y0 am_fu (0 : Int32) (0 : Int32) M2 x8 M9 h10 ?_)
  refine am_iload_n F 0 dX1_reachedFrom_37 rfl rfl ?_
  exact am_iret F hr h dX1_reachedFrom_38
/-! AisleScheduler$Floor.distance(II)I -/
abbrev rm_X1_distance : Room := { frames := 5, cells := 0, slots := 0, locals := 115 }
theorem yn_X1_distance : am_yn yX1_distance 2 := ⟨⟨by decide +kernel, by decide +kernel⟩, by decide +kernel⟩
def g_X1_distance (t0 : Nat) (a1 : Int32) (a2 : Int32) (M : am_M) : Option (Int32 × am_M) := (am_b (g_X1_measureFrom t0 a1 M) (fun _ M2 => (am_b (g_X9_at (t0 + 4) 40 a2 M2) (fun v5 M4 => (some (v5, M4))))))
set_option maxHeartbeats 4000000 in
set_option maxRecDepth 100000 in
theorem c_X1_distance (l : Launch) (D : va_G) (E : Nat → ClassId) (z : Nat) (t0 : Nat) (y0 : am_ly t0 = (1, 0)) (a1 : Int32) (a2 : Int32) (M : am_M) (r0 : Int32) (M1 : am_M) (h : g_X1_distance t0 a1 a2 M = some (r0, M1)) : am_Mi l yX1_distance cX1_distance 3 (some .int) rm_X1_distance D E z [.ref (z + t0), .int a1, .int a2] M r0 M1 := by
  unfold g_X1_distance at h
  refine am_of (own := RX1) (by decide +kernel) rfl (by exact Nat.le_of_ble_eq_true rfl) ?_
  intro p e s m args below meth c F hr
  show am_W p l e rm_X1_distance s m args below meth c _ 3 D E z 0 0 M 0 [(0, .ref (z + t0)), (1, .int a1), (2, .int a2)] []
  refine am_aload_n F 0 dX1_distance_0 rfl rfl ?_
  refine am_iload_n F 1 dX1_distance_1 rfl rfl ?_
  obtain ⟨_, M2, h1, h⟩ := am_bE h
  refine am_callVv F [.int a1] y0 (by decide) rfl cw_X1_59 (c_X1_measureFrom l D E z t0 y0 a1 M M2 h1) yn_X1_measureFrom rfl ⟨Nat.le_of_ble_eq_true rfl, Nat.le_of_ble_eq_true rfl⟩ rfl rfl (Nat.le_of_ble_eq_true rfl) ⟨Nat.zero_le _, Nat.zero_le _⟩ dX1_distance_2 rfl ?_
  refine am_aload_n F 0 dX1_distance_5 rfl rfl ?_
  refine gf_X1_21 F y0 dX1_distance_6 ?_
  refine am_iload_n F 2 dX1_distance_9 rfl rfl ?_
  obtain ⟨v5, M4, h3, h⟩ := am_bE h
  refine am_callSNi F [.ref (z + (t0 + 4)), .int a2] cw_X1_47  (c_X9_at l D E z (t0 + 4) 40 (lyf_1_distances y0) a2 M2 v5 M4 h3) yn_X9_at rfl ⟨Nat.le_of_ble_eq_true rfl, Nat.le_of_ble_eq_true rfl⟩ rfl rfl (Nat.le_of_ble_eq_true rfl) ⟨Nat.zero_le _, Nat.zero_le _⟩ dX1_distance_10 rfl ?_
  exact am_iret F hr h dX1_distance_13
/-! AisleScheduler$Plan.copyFrom(LAisleScheduler$Plan;)V -/
abbrev rm_X2_copyFrom : Room := { frames := 2, cells := 0, slots := 0, locals := 46 }
theorem yn_X2_copyFrom : am_yn yX2_copyFrom 1 := ⟨⟨by decide +kernel, by decide +kernel⟩, by decide +kernel⟩
def g_X2_copyFrom (t0 : Nat) (t1 : Nat) (M : am_M) : Option (Unit × am_M) := (am_b (g_X9_copyRow (t1 + 1) 30 (t0 + 1) 30 M) (fun _ M2 => (am_b (g_X9_copyRow (t1 + 2) 31 (t0 + 2) 31 M2) (fun _ M4 => (some ((), (am_s (am_s (am_s M4 t0 2 (am_g M4 t1 2)) t0 3 (am_g (am_s M4 t0 2 (am_g M4 t1 2)) t1 3)) t0 4 (am_g (am_s (am_s M4 t0 2 (am_g M4 t1 2)) t0 3 (am_g (am_s M4 t0 2 (am_g M4 t1 2)) t1 3)) t1 4))))))))
set_option maxHeartbeats 4000000 in
set_option maxRecDepth 100000 in
theorem c_X2_copyFrom (l : Launch) (D : va_G) (E : Nat → ClassId) (z : Nat) (t0 : Nat) (y0 : am_ly t0 = (2, 0)) (t1 : Nat) (y1 : am_ly t1 = (2, 0)) (M : am_M)  (M1 : am_M) (h : g_X2_copyFrom t0 t1 M = some ((), M1)) : am_Mv l yX2_copyFrom cX2_copyFrom 2 none rm_X2_copyFrom D E z [.ref (z + t0), .ref (z + t1)] M M1 := by
  unfold g_X2_copyFrom at h
  refine am_of (own := RX2) (by decide +kernel) rfl (by exact Nat.le_of_ble_eq_true rfl) ?_
  intro p e s m args below meth c F hr
  show am_W p l e rm_X2_copyFrom s m args below meth c _ 2 D E z 0 0 M 0 [(0, .ref (z + t0)), (1, .ref (z + t1))] []
  refine am_aload_n F 1 dX2_copyFrom_0 rfl rfl ?_
  refine gf_X2_9 F y1 dX2_copyFrom_1 ?_
  refine am_aload_n F 0 dX2_copyFrom_4 rfl rfl ?_
  refine gf_X2_9 F y0 dX2_copyFrom_5 ?_
  obtain ⟨_, M2, h1, h⟩ := am_bE h
  refine am_callSNv F [.ref (z + (t1 + 1)), .ref (z + (t0 + 1))] cw_X2_32  (c_X9_copyRow l D E z (t1 + 1) 30 (lyf_2_actions y1) (t0 + 1) 30 (lyf_2_actions y0) M M2 h1) yn_X9_copyRow rfl ⟨Nat.le_of_ble_eq_true rfl, Nat.le_of_ble_eq_true rfl⟩ rfl rfl (Nat.le_of_ble_eq_true rfl) ⟨Nat.zero_le _, Nat.zero_le _⟩ dX2_copyFrom_8 rfl ?_
  refine am_aload_n F 1 dX2_copyFrom_11 rfl rfl ?_
  refine gf_X2_15 F y1 dX2_copyFrom_12 ?_
  refine am_aload_n F 0 dX2_copyFrom_15 rfl rfl ?_
  refine gf_X2_15 F y0 dX2_copyFrom_16 ?_
  obtain ⟨_, M4, h3, h⟩ := am_bE h
  refine am_callSNv F [.ref (z + (t1 + 2)), .ref (z + (t0 + 2))] cw_X2_32  (c_X9_copyRow l D E z (t1 + 2) 31 (lyf_2_places y1) (t0 + 2) 31 (lyf_2_places y0) M2 M4 h3) yn_X9_copyRow rfl ⟨Nat.le_of_ble_eq_true rfl, Nat.le_of_ble_eq_true rfl⟩ rfl rfl (Nat.le_of_ble_eq_true rfl) ⟨Nat.zero_le _, Nat.zero_le _⟩ dX2_copyFrom_19 rfl ?_
  refine am_aload_n F 0 dX2_copyFrom_22 rfl rfl ?_
  refine am_aload_n F 1 dX2_copyFrom_23 rfl rfl ?_
  refine gf_X2_22 F y1 dX2_copyFrom_24 ?_
  refine pf_X2_22 F y0 dX2_copyFrom_27 ?_
  refine am_aload_n F 0 dX2_copyFrom_30 rfl rfl ?_
  refine am_aload_n F 1 dX2_copyFrom_31 rfl rfl ?_
  refine gf_X2_26 F y1 dX2_copyFrom_32 ?_
  refine pf_X2_26 F y0 dX2_copyFrom_35 ?_
  refine am_aload_n F 0 dX2_copyFrom_38 rfl rfl ?_
  refine am_aload_n F 1 dX2_copyFrom_39 rfl rfl ?_
  refine gf_X2_29 F y1 dX2_copyFrom_40 ?_
  refine pf_X2_29 F y0 dX2_copyFrom_43 ?_
  exact am_vret F hr h dX2_copyFrom_46
/-! AisleScheduler$Plan.ticksLeft(I)I -/
abbrev rm_X2_ticksLeft : Room := { frames := 1, cells := 0, slots := 0, locals := 24 }
theorem yn_X2_ticksLeft : am_yn yX2_ticksLeft 1 := ⟨⟨by decide +kernel, by decide +kernel⟩, by decide +kernel⟩
def g_X2_ticksLeft (t0 : Nat) (a1 : Int32) (M : am_M) : Option (Int32 × am_M) := (some ((if (0 : Int32) < (((am_g M t0 2) + (am_g M t0 3)) - a1) then (((am_g M t0 2) + (am_g M t0 3)) - a1) else (0 : Int32)), M))
set_option maxHeartbeats 4000000 in
set_option maxRecDepth 100000 in
theorem c_X2_ticksLeft (l : Launch) (D : va_G) (E : Nat → ClassId) (z : Nat) (t0 : Nat) (y0 : am_ly t0 = (2, 0)) (a1 : Int32) (M : am_M) (r0 : Int32) (M1 : am_M) (h : g_X2_ticksLeft t0 a1 M = some (r0, M1)) : am_Mi l yX2_ticksLeft cX2_ticksLeft 2 (some .int) rm_X2_ticksLeft D E z [.ref (z + t0), .int a1] M r0 M1 := by
  unfold g_X2_ticksLeft at h
  refine am_of (own := RX2) (by decide +kernel) rfl (by exact Nat.le_of_ble_eq_true rfl) ?_
  intro p e s m args below meth c F hr
  show am_W p l e rm_X2_ticksLeft s m args below meth c _ 2 D E z 0 0 M 0 [(0, .ref (z + t0)), (1, .int a1)] []
  refine am_iconst F (v := (0 : Int32)) dX2_ticksLeft_0 (by decide) ?_
  refine am_aload_n F 0 dX2_ticksLeft_1 rfl rfl ?_
  refine gf_X2_22 F y0 dX2_ticksLeft_2 ?_
  refine am_aload_n F 0 dX2_ticksLeft_5 rfl rfl ?_
  refine gf_X2_26 F y0 dX2_ticksLeft_6 ?_
  refine am_iadd F dX2_ticksLeft_9 ?_
  refine am_iload_n F 1 dX2_ticksLeft_10 rfl rfl ?_
  refine am_isub F dX2_ticksLeft_11 ?_
  refine am_max F dX2_ticksLeft_12 wd_400 (Nat.le_of_ble_eq_true rfl) (Nat.le_of_ble_eq_true rfl) (Nat.le_of_ble_eq_true rfl) (Nat.le_of_ble_eq_true rfl) ?_
  exact am_iret F hr h dX2_ticksLeft_15
/-! AisleScheduler$Plan.isBegin(I)Z -/
abbrev rm_X2_isBegin : Room := { frames := 2, cells := 0, slots := 0, locals := 45 }
theorem yn_X2_isBegin : am_yn yX2_isBegin 1 := ⟨⟨by decide +kernel, by decide +kernel⟩, by decide +kernel⟩
def g_X2_isBegin (t0 : Nat) (a1 : Int32) (M : am_M) : Option (Int32 × am_M) := (am_b (g_X9_at (t0 + 2) 31 a1 M) (fun v3 M2 => (if v3 < (0 : Int32) then (some ((0 : Int32), M2)) else (some ((1 : Int32), M2)))))
set_option maxHeartbeats 4000000 in
set_option maxRecDepth 100000 in
theorem c_X2_isBegin (l : Launch) (D : va_G) (E : Nat → ClassId) (z : Nat) (t0 : Nat) (y0 : am_ly t0 = (2, 0)) (a1 : Int32) (M : am_M) (r0 : Int32) (M1 : am_M) (h : g_X2_isBegin t0 a1 M = some (r0, M1)) : am_Mi l yX2_isBegin cX2_isBegin 2 (some .boolean) rm_X2_isBegin D E z [.ref (z + t0), .int a1] M r0 M1 := by
  unfold g_X2_isBegin at h
  refine am_of (own := RX2) (by decide +kernel) rfl (by exact Nat.le_of_ble_eq_true rfl) ?_
  intro p e s m args below meth c F hr
  show am_W p l e rm_X2_isBegin s m args below meth c _ 2 D E z 0 0 M 0 [(0, .ref (z + t0)), (1, .int a1)] []
  refine am_aload_n F 0 dX2_isBegin_0 rfl rfl ?_
  refine gf_X2_15 F y0 dX2_isBegin_1 ?_
  refine am_iload_n F 1 dX2_isBegin_4 rfl rfl ?_
  obtain ⟨v3, M2, h1, h⟩ := am_bE h
  refine am_callSNi F [.ref (z + (t0 + 2)), .int a1] cw_X2_43  (c_X9_at l D E z (t0 + 2) 31 (lyf_2_places y0) a1 M v3 M2 h1) yn_X9_at rfl ⟨Nat.le_of_ble_eq_true rfl, Nat.le_of_ble_eq_true rfl⟩ rfl rfl (Nat.le_of_ble_eq_true rfl) ⟨Nat.zero_le _, Nat.zero_le _⟩ dX2_isBegin_5 rfl ?_
  refine am_if_lt F (tgt := 15) dX2_isBegin_8 (by decide) (fun c4 => ?_) (fun c4 => ?_)
  · have h := (if_pos c4).symm.trans h
    refine am_iconst F (v := (0 : Int32)) dX2_isBegin_15 (by decide) ?_
    exact am_zret F hr (by decide) h dX2_isBegin_16
  · have h := (if_neg c4).symm.trans h
    refine am_iconst F (v := (1 : Int32)) dX2_isBegin_11 (by decide) ?_
    refine am_goto F (tgt := 16) dX2_isBegin_12 (by decide) ?_
    exact am_zret F hr (by decide) h dX2_isBegin_16
/-! AisleScheduler$Plan.costLeft(I)I -/
abbrev rm_X2_costLeft : Room := { frames := 3, cells := 0, slots := 0, locals := 66 }
theorem yn_X2_costLeft : am_yn yX2_costLeft 1 := ⟨⟨by decide +kernel, by decide +kernel⟩, by decide +kernel⟩
def g_X2_costLeft_L4 (t0 : Nat) (a1 : Int32) : Nat → Int32 → Int32 → am_M → Option ((Int32) × am_M)
  | 0, _, _, _ => none
  | n + 1, a2, a3, M => (if (am_g M t0 3) ≤ a3 then (some (a2, M)) else (am_b (g_X2_isBegin t0 a3 M) (fun v3 M2 => (if v3 = (0 : Int32) then (g_X2_costLeft_L4 t0 a1 n a2 (a3 + (1 : Int32)) M2) else (if ((am_g M2 t0 2) + a3) < a1 then (g_X2_costLeft_L4 t0 a1 n a2 (a3 + (1 : Int32)) M2) else (am_b (g_X9_at (t0 + 1) 30 a3 M2) (fun v6 M5 => (am_b (g_X9_costOf v6 M5) (fun v9 M8 => (g_X2_costLeft_L4 t0 a1 n (a2 + v9) (a3 + (1 : Int32)) M8))))))))))
set_option maxHeartbeats 4000000 in
set_option maxRecDepth 100000 in
theorem cl_X2_costLeft_L4 {l : Launch} {p : Program} {e : Env} {s : State} {m : MethodId} {args : Array Value} {below : List Frame} {meth : Method} {c : Code} {Q : State → Prop} {D : va_G} {E : Nat → ClassId} {z : Nat} (F : am_F p s m args meth c cX2_costLeft 4 RX2 D E z) (t0 : Nat) (y0 : am_ly t0 = (2, 0)) (a1 : Int32) : ∀ (n : Nat) (a2 : Int32) (a3 : Int32) (M : am_M) (x : Int32) (M1 : am_M), g_X2_costLeft_L4 t0 a1 n a2 a3 M = some (x, M1) → (am_W p l e rm_X2_costLeft s m args below meth c Q 4 D E z 0 0 M1 50 [(2, .int x)] []) → am_W p l e rm_X2_costLeft s m args below meth c Q 4 D E z 0 0 M 4 [(0, .ref (z + t0)), (1, .int a1), (2, .int a2), (3, .int a3)] [] := by
  intro n
  induction n with
  | zero => intro a2 a3 M x M1 h K; cases h
  | succ n ih =>
    intro a2 a3 M x M1 h K
    rw [g_X2_costLeft_L4] at h
    refine am_iload_n F 3 dX2_costLeft_4 rfl rfl ?_
    refine am_aload_n F 0 dX2_costLeft_5 rfl rfl ?_
    refine gf_X2_26 F y0 dX2_costLeft_6 ?_
    refine am_icmp_ge F (tgt := 50) dX2_costLeft_9 (by decide) (fun c12 => ?_) (fun c12 => ?_)
    · have h := (if_pos c12).symm.trans h
      cases h
      exact am_sub (lv' := [(2, .int a2)]) [2] rfl (K)
    · have h := (if_neg c12).symm.trans h
      refine am_aload_n F 0 dX2_costLeft_12 rfl rfl ?_
      refine am_iload_n F 3 dX2_costLeft_13 rfl rfl ?_
      obtain ⟨v3, M2, h1, h⟩ := am_bE h
      refine am_callVi F [.int a3] y0 (by decide) rfl cw_X2_56 (c_X2_isBegin l D E z t0 y0 a3 M v3 M2 h1) yn_X2_isBegin rfl ⟨Nat.le_of_ble_eq_true rfl, Nat.le_of_ble_eq_true rfl⟩ rfl rfl (Nat.le_of_ble_eq_true rfl) ⟨Nat.zero_le _, Nat.zero_le _⟩ dX2_costLeft_14 rfl ?_
      refine am_if_eq F (tgt := 44) dX2_costLeft_17 (by decide) (fun c11 => ?_) (fun c11 => ?_)
      · have h := (if_pos c11).symm.trans h
        refine am_iinc F [(3, .int (a3 + (1 : Int32))), (0, .ref (z + t0)), (1, .int a1), (2, .int a2)] 3 dX2_costLeft_44 (by decide) rfl rfl rfl ?_
        refine am_goto F (tgt := 4) dX2_costLeft_47 (by decide) ?_
        exact am_sub (lv' := [(0, .ref (z + t0)), (1, .int a1), (2, .int a2), (3, .int (a3 + (1 : Int32)))]) [1, 2, 3, 0] rfl (ih a2 (a3 + (1 : Int32)) M2 _ _ h K)
      · have h := (if_neg c11).symm.trans h
        refine am_aload_n F 0 dX2_costLeft_20 rfl rfl ?_
        refine gf_X2_22 F y0 dX2_costLeft_21 ?_
        refine am_iload_n F 3 dX2_costLeft_24 rfl rfl ?_
        refine am_iadd F dX2_costLeft_25 ?_
        refine am_iload_n F 1 dX2_costLeft_26 rfl rfl ?_
        refine am_icmp_lt F (tgt := 44) dX2_costLeft_27 (by decide) (fun c10 => ?_) (fun c10 => ?_)
        · have h := (if_pos c10).symm.trans h
          refine am_iinc F [(3, .int (a3 + (1 : Int32))), (0, .ref (z + t0)), (1, .int a1), (2, .int a2)] 3 dX2_costLeft_44 (by decide) rfl rfl rfl ?_
          refine am_goto F (tgt := 4) dX2_costLeft_47 (by decide) ?_
          exact am_sub (lv' := [(0, .ref (z + t0)), (1, .int a1), (2, .int a2), (3, .int (a3 + (1 : Int32)))]) [1, 2, 3, 0] rfl (ih a2 (a3 + (1 : Int32)) M2 _ _ h K)
        · have h := (if_neg c10).symm.trans h
          refine am_iload_n F 2 dX2_costLeft_30 rfl rfl ?_
          refine am_aload_n F 0 dX2_costLeft_31 rfl rfl ?_
          refine gf_X2_9 F y0 dX2_costLeft_32 ?_
          refine am_iload_n F 3 dX2_costLeft_35 rfl rfl ?_
          obtain ⟨v6, M5, h4, h⟩ := am_bE h
          refine am_callSNi F [.ref (z + (t0 + 1)), .int a3] cw_X2_43  (c_X9_at l D E z (t0 + 1) 30 (lyf_2_actions y0) a3 M2 v6 M5 h4) yn_X9_at rfl ⟨Nat.le_of_ble_eq_true rfl, Nat.le_of_ble_eq_true rfl⟩ rfl rfl (Nat.le_of_ble_eq_true rfl) ⟨Nat.zero_le _, Nat.zero_le _⟩ dX2_costLeft_36 rfl ?_
          obtain ⟨v9, M8, h7, h⟩ := am_bE h
          refine am_callSNi F [.int v6] cw_X2_40  (c_X9_costOf l D E z v6 M5 v9 M8 h7) yn_X9_costOf rfl ⟨Nat.le_of_ble_eq_true rfl, Nat.le_of_ble_eq_true rfl⟩ rfl rfl (Nat.le_of_ble_eq_true rfl) ⟨Nat.zero_le _, Nat.zero_le _⟩ dX2_costLeft_39 rfl ?_
          refine am_iadd F dX2_costLeft_42 ?_
          refine am_istore_n F [(2, .int (a2 + v9)), (0, .ref (z + t0)), (1, .int a1), (3, .int a3)] dX2_costLeft_43 rfl (by decide) rfl ?_
          refine am_iinc F [(3, .int (a3 + (1 : Int32))), (2, .int (a2 + v9)), (0, .ref (z + t0)), (1, .int a1)] 3 dX2_costLeft_44 (by decide) rfl rfl rfl ?_
          refine am_goto F (tgt := 4) dX2_costLeft_47 (by decide) ?_
          exact am_sub (lv' := [(0, .ref (z + t0)), (1, .int a1), (2, .int (a2 + v9)), (3, .int (a3 + (1 : Int32)))]) [2, 3, 1, 0] rfl (ih (a2 + v9) (a3 + (1 : Int32)) M8 _ _ h K)
def g_X2_costLeft (t0 : Nat) (a1 : Int32) (M : am_M) : Option (Int32 × am_M) := (am_b (g_X2_costLeft_L4 t0 a1 am_fu (0 : Int32) (0 : Int32) M) (fun x13 M14 => (some (x13, M14))))
set_option maxHeartbeats 4000000 in
set_option maxRecDepth 100000 in
theorem c_X2_costLeft (l : Launch) (D : va_G) (E : Nat → ClassId) (z : Nat) (t0 : Nat) (y0 : am_ly t0 = (2, 0)) (a1 : Int32) (M : am_M) (r0 : Int32) (M1 : am_M) (h : g_X2_costLeft t0 a1 M = some (r0, M1)) : am_Mi l yX2_costLeft cX2_costLeft 4 (some .int) rm_X2_costLeft D E z [.ref (z + t0), .int a1] M r0 M1 := by
  unfold g_X2_costLeft at h
  refine am_of (own := RX2) (by decide +kernel) rfl (by exact Nat.le_of_ble_eq_true rfl) ?_
  intro p e s m args below meth c F hr
  show am_W p l e rm_X2_costLeft s m args below meth c _ 4 D E z 0 0 M 0 [(0, .ref (z + t0)), (1, .int a1)] []
  refine am_iconst F (v := (0 : Int32)) dX2_costLeft_0 (by decide) ?_
  refine am_istore_n F [(2, .int (0 : Int32)), (0, .ref (z + t0)), (1, .int a1)] dX2_costLeft_1 rfl (by decide) rfl ?_
  refine am_iconst F (v := (0 : Int32)) dX2_costLeft_2 (by decide) ?_
  refine am_istore_n F [(3, .int (0 : Int32)), (2, .int (0 : Int32)), (0, .ref (z + t0)), (1, .int a1)] dX2_costLeft_3 rfl (by decide) rfl ?_
  obtain ⟨x13, M14, h15, h⟩ := am_bE h
  refine am_sub (lv' := [(0, .ref (z + t0)), (1, .int a1), (2, .int (0 : Int32)), (3, .int (0 : Int32))]) [2, 3, 1, 0] rfl (cl_X2_costLeft_L4 F t0 y0 a1 am_fu (0 : Int32) (0 : Int32) M x13 M14 h15 ?_)
  refine am_iload_n F 0 dX2_costLeft_50 rfl rfl ?_
  exact am_iret F hr h dX2_costLeft_51
/-! AisleScheduler$Plan.restAction(II)I -/
abbrev rm_X2_restAction : Room := { frames := 3, cells := 0, slots := 0, locals := 66 }
theorem yn_X2_restAction : am_yn yX2_restAction 2 := ⟨⟨by decide +kernel, by decide +kernel⟩, by decide +kernel⟩
def g_X2_restAction_L5 (t0 : Nat) (a1 : Int32) : Nat → Int32 → Int32 → am_M → Option ((Nat × Int32) × am_M)
  | 0, _, _, _ => none
  | n + 1, a3, a4, M => (if (am_g M t0 3) ≤ a4 then (some ((67, 0), M)) else (am_b (g_X9_at (t0 + 1) 30 a4 M) (fun v3 M2 => (am_b (g_X2_isBegin t0 a4 M2) (fun v6 M5 => (if v6 = (0 : Int32) then (g_X2_restAction_L5 t0 a1 n a3 (a4 + (1 : Int32)) M5) else (am_b (g_X9_ticksOf v3 M5) (fun v9 M8 => (if (((am_g M5 t0 2) + a4) + v9) ≤ a1 then (g_X2_restAction_L5 t0 a1 n a3 (a4 + (1 : Int32)) M8) else (if a3 = (0 : Int32) then (some ((55, v3), M8)) else (g_X2_restAction_L5 t0 a1 n (a3 + (-1 : Int32)) (a4 + (1 : Int32)) M8)))))))))))
set_option maxHeartbeats 4000000 in
set_option maxRecDepth 100000 in
theorem cl_X2_restAction_L5 {l : Launch} {p : Program} {e : Env} {s : State} {m : MethodId} {args : Array Value} {below : List Frame} {meth : Method} {c : Code} {Q : State → Prop} {D : va_G} {E : Nat → ClassId} {z : Nat} (F : am_F p s m args meth c cX2_restAction 6 RX2 D E z) (t0 : Nat) (y0 : am_ly t0 = (2, 0)) (a1 : Int32) : ∀ (n : Nat) (a3 : Int32) (a4 : Int32) (M : am_M) (x : Nat × Int32) (M1 : am_M), g_X2_restAction_L5 t0 a1 n a3 a4 M = some (x, M1) → ((x.1 = 55 → am_W p l e rm_X2_restAction s m args below meth c Q 6 D E z 0 0 M1 55 [(5, .int x.2)] []) ∧ (x.1 = 67 → am_W p l e rm_X2_restAction s m args below meth c Q 6 D E z 0 0 M1 67 [] [])) → am_W p l e rm_X2_restAction s m args below meth c Q 6 D E z 0 0 M 5 [(0, .ref (z + t0)), (1, .int a1), (3, .int a3), (4, .int a4)] [] := by
  intro n
  induction n with
  | zero => intro a3 a4 M x M1 h K; cases h
  | succ n ih =>
    intro a3 a4 M x M1 h K
    rw [g_X2_restAction_L5] at h
    refine am_iload F 3 dX2_restAction_5 rfl ?_
    refine am_aload_n F 0 dX2_restAction_7 rfl rfl ?_
    refine gf_X2_26 F y0 dX2_restAction_8 ?_
    refine am_icmp_ge F (tgt := 67) dX2_restAction_11 (by decide) (fun c13 => ?_) (fun c13 => ?_)
    · have h := (if_pos c13).symm.trans h
      cases h
      exact am_sub (lv' := []) [] rfl (K.2 rfl)
    · have h := (if_neg c13).symm.trans h
      refine am_aload_n F 0 dX2_restAction_14 rfl rfl ?_
      refine gf_X2_9 F y0 dX2_restAction_15 ?_
      refine am_iload F 3 dX2_restAction_18 rfl ?_
      obtain ⟨v3, M2, h1, h⟩ := am_bE h
      refine am_callSNi F [.ref (z + (t0 + 1)), .int a4] cw_X2_43  (c_X9_at l D E z (t0 + 1) 30 (lyf_2_actions y0) a4 M v3 M2 h1) yn_X9_at rfl ⟨Nat.le_of_ble_eq_true rfl, Nat.le_of_ble_eq_true rfl⟩ rfl rfl (Nat.le_of_ble_eq_true rfl) ⟨Nat.zero_le _, Nat.zero_le _⟩ dX2_restAction_20 rfl ?_
      refine am_istore F [(5, .int v3), (0, .ref (z + t0)), (1, .int a1), (3, .int a3), (4, .int a4)] dX2_restAction_23 (by decide) rfl ?_
      refine am_aload_n F 1 dX2_restAction_25 rfl rfl ?_
      refine am_iload F 4 dX2_restAction_26 rfl ?_
      obtain ⟨v6, M5, h4, h⟩ := am_bE h
      refine am_callVi F [.int a4] y0 (by decide) rfl cw_X2_56 (c_X2_isBegin l D E z t0 y0 a4 M2 v6 M5 h4) yn_X2_isBegin rfl ⟨Nat.le_of_ble_eq_true rfl, Nat.le_of_ble_eq_true rfl⟩ rfl rfl (Nat.le_of_ble_eq_true rfl) ⟨Nat.zero_le _, Nat.zero_le _⟩ dX2_restAction_28 rfl ?_
      refine am_if_eq F (tgt := 61) dX2_restAction_31 (by decide) (fun c12 => ?_) (fun c12 => ?_)
      · have h := (if_pos c12).symm.trans h
        refine am_iinc F [(4, .int (a4 + (1 : Int32))), (5, .int v3), (0, .ref (z + t0)), (1, .int a1), (3, .int a3)] 4 dX2_restAction_61 (by decide) rfl rfl rfl ?_
        refine am_goto F (tgt := 5) dX2_restAction_64 (by decide) ?_
        exact am_sub (lv' := [(0, .ref (z + t0)), (1, .int a1), (3, .int a3), (4, .int (a4 + (1 : Int32)))]) [2, 3, 4, 0] rfl (ih a3 (a4 + (1 : Int32)) M5 _ _ h K)
      · have h := (if_neg c12).symm.trans h
        refine am_aload_n F 1 dX2_restAction_34 rfl rfl ?_
        refine gf_X2_22 F y0 dX2_restAction_35 ?_
        refine am_iload F 4 dX2_restAction_38 rfl ?_
        refine am_iadd F dX2_restAction_40 ?_
        refine am_iload F 0 dX2_restAction_41 rfl ?_
        obtain ⟨v9, M8, h7, h⟩ := am_bE h
        refine am_callSNi F [.int v3] cw_X2_36  (c_X9_ticksOf l D E z v3 M5 v9 M8 h7) yn_X9_ticksOf rfl ⟨Nat.le_of_ble_eq_true rfl, Nat.le_of_ble_eq_true rfl⟩ rfl rfl (Nat.le_of_ble_eq_true rfl) ⟨Nat.zero_le _, Nat.zero_le _⟩ dX2_restAction_43 rfl ?_
        refine am_iadd F dX2_restAction_46 ?_
        refine am_iload_n F 2 dX2_restAction_47 rfl rfl ?_
        refine am_icmp_le F (tgt := 61) dX2_restAction_48 (by decide) (fun c11 => ?_) (fun c11 => ?_)
        · have h := (if_pos c11).symm.trans h
          refine am_iinc F [(4, .int (a4 + (1 : Int32))), (5, .int v3), (0, .ref (z + t0)), (1, .int a1), (3, .int a3)] 4 dX2_restAction_61 (by decide) rfl rfl rfl ?_
          refine am_goto F (tgt := 5) dX2_restAction_64 (by decide) ?_
          exact am_sub (lv' := [(0, .ref (z + t0)), (1, .int a1), (3, .int a3), (4, .int (a4 + (1 : Int32)))]) [2, 3, 4, 0] rfl (ih a3 (a4 + (1 : Int32)) M8 _ _ h K)
        · have h := (if_neg c11).symm.trans h
          refine am_iload_n F 3 dX2_restAction_51 rfl rfl ?_
          refine am_if_ne F (tgt := 58) dX2_restAction_52 (by decide) (fun c10 => ?_) (fun c10 => ?_)
          · have h := (if_neg c10).symm.trans h
            refine am_iinc F [(3, .int (a3 + (-1 : Int32))), (5, .int v3), (0, .ref (z + t0)), (1, .int a1), (4, .int a4)] 3 dX2_restAction_58 (by decide) rfl rfl rfl ?_
            refine am_iinc F [(4, .int (a4 + (1 : Int32))), (3, .int (a3 + (-1 : Int32))), (5, .int v3), (0, .ref (z + t0)), (1, .int a1)] 4 dX2_restAction_61 (by decide) rfl rfl rfl ?_
            refine am_goto F (tgt := 5) dX2_restAction_64 (by decide) ?_
            exact am_sub (lv' := [(0, .ref (z + t0)), (1, .int a1), (3, .int (a3 + (-1 : Int32))), (4, .int (a4 + (1 : Int32)))]) [3, 4, 1, 0] rfl (ih (a3 + (-1 : Int32)) (a4 + (1 : Int32)) M8 _ _ h K)
          · have h := (if_pos c10).symm.trans h
            cases h
            exact am_sub (lv' := [(5, .int v3)]) [0] rfl (K.1 rfl)
def g_X2_restAction (t0 : Nat) (a1 : Int32) (a2 : Int32) (M : am_M) : Option (Int32 × am_M) := (am_b (g_X2_restAction_L5 t0 a1 am_fu a2 (0 : Int32) M) (fun x14 M15 => (if x14.1 = 55 then (some (x14.2, M15)) else (some ((-1 : Int32), M15)))))
set_option maxHeartbeats 4000000 in
set_option maxRecDepth 100000 in
theorem c_X2_restAction (l : Launch) (D : va_G) (E : Nat → ClassId) (z : Nat) (t0 : Nat) (y0 : am_ly t0 = (2, 0)) (a1 : Int32) (a2 : Int32) (M : am_M) (r0 : Int32) (M1 : am_M) (h : g_X2_restAction t0 a1 a2 M = some (r0, M1)) : am_Mi l yX2_restAction cX2_restAction 6 (some .int) rm_X2_restAction D E z [.ref (z + t0), .int a1, .int a2] M r0 M1 := by
  unfold g_X2_restAction at h
  refine am_of (own := RX2) (by decide +kernel) rfl (by exact Nat.le_of_ble_eq_true rfl) ?_
  intro p e s m args below meth c F hr
  show am_W p l e rm_X2_restAction s m args below meth c _ 6 D E z 0 0 M 0 [(0, .ref (z + t0)), (1, .int a1), (2, .int a2)] []
  refine am_iload_n F 2 dX2_restAction_0 rfl rfl ?_
  refine am_istore_n F [(3, .int a2), (0, .ref (z + t0)), (1, .int a1), (2, .int a2)] dX2_restAction_1 rfl (by decide) rfl ?_
  refine am_iconst F (v := (0 : Int32)) dX2_restAction_2 (by decide) ?_
  refine am_istore F [(4, .int (0 : Int32)), (3, .int a2), (0, .ref (z + t0)), (1, .int a1), (2, .int a2)] dX2_restAction_3 (by decide) rfl ?_
  obtain ⟨x14, M15, h16, h⟩ := am_bE h
  refine am_sub (lv' := [(0, .ref (z + t0)), (1, .int a1), (3, .int a2), (4, .int (0 : Int32))]) [2, 3, 1, 0] rfl (cl_X2_restAction_L5 F t0 y0 a1 am_fu a2 (0 : Int32) M x14 M15 h16 ⟨fun c17 => ?_, fun c17 => ?_⟩)
  · have h := (if_pos c17).symm.trans h
    refine am_iload F 0 dX2_restAction_55 rfl ?_
    exact am_iret F hr h dX2_restAction_57
  · have h := (if_neg (by rw [c17]; decide)).symm.trans h
    refine am_iconst F (v := (-1 : Int32)) dX2_restAction_67 (by decide) ?_
    exact am_iret F hr h dX2_restAction_68
/-! AisleScheduler$Planner.findFinal(II)Z -/
abbrev rm_X3_findFinal : Room := { frames := 5, cells := 0, slots := 0, locals := 133 }
theorem yn_X3_findFinal : am_yn yX3_findFinal 2 := ⟨⟨by decide +kernel, by decide +kernel⟩, by decide +kernel⟩
def g_X3_findFinal (a1 : Int32) (a2 : Int32) (M : am_M) : Option (Int32 × am_M) := (am_b (g_X0_begin 158 1 a1 (-1 : Int32) M) (fun _ M2 => (am_b (g_X0_extend 158 a2 (1 : Int32) M2) (fun v5 M4 => (am_c (v5 = 0 ∨ v5 = 1) (some (v5, M4)))))))
set_option maxHeartbeats 4000000 in
set_option maxRecDepth 100000 in
theorem c_X3_findFinal (l : Launch) (D : va_G) (E : Nat → ClassId) (z : Nat) (a1 : Int32) (a2 : Int32) (M : am_M) (r0 : Int32) (M1 : am_M) (h : g_X3_findFinal a1 a2 M = some (r0, M1)) : am_Mi l yX3_findFinal cX3_findFinal 3 (some .boolean) rm_X3_findFinal D E z [.ref (z + 157), .int a1, .int a2] M r0 M1 := by
  unfold g_X3_findFinal at h
  refine am_of (own := RX3) (by decide +kernel) rfl (by exact Nat.le_of_ble_eq_true rfl) ?_
  intro p e s m args below meth c F hr
  show am_W p l e rm_X3_findFinal s m args below meth c _ 3 D E z 0 0 M 0 [(0, .ref (z + 157)), (1, .int a1), (2, .int a2)] []
  refine am_aload_n F 0 dX3_findFinal_0 rfl rfl ?_
  refine gf_X3_33 F lyk_157 dX3_findFinal_1 ?_
  refine am_aload_n F 0 dX3_findFinal_4 rfl rfl ?_
  refine gf_X3_12 F lyk_157 dX3_findFinal_5 ?_
  refine am_aload_n F 0 dX3_findFinal_8 rfl rfl ?_
  refine gf_X3_18 F lyk_157 dX3_findFinal_9 ?_
  refine am_iload_n F 1 dX3_findFinal_12 rfl rfl ?_
  refine am_iconst F (v := (-1 : Int32)) dX3_findFinal_13 (by decide) ?_
  obtain ⟨_, M2, h1, h⟩ := am_bE h
  refine am_callVv F [.ref (z + 158), .ref (z + 1), .int a1, .int (-1 : Int32)] lyk_161 (by decide) rfl cw_X3_37 (c_X0_begin l D E z 158 lyk_158 1 lyk_1 a1 (-1 : Int32) M M2 h1) yn_X0_begin rfl ⟨Nat.le_of_ble_eq_true rfl, Nat.le_of_ble_eq_true rfl⟩ rfl rfl (Nat.le_of_ble_eq_true rfl) ⟨Nat.zero_le _, Nat.zero_le _⟩ dX3_findFinal_14 rfl ?_
  refine am_aload_n F 0 dX3_findFinal_17 rfl rfl ?_
  refine gf_X3_33 F lyk_157 dX3_findFinal_18 ?_
  refine am_aload_n F 0 dX3_findFinal_21 rfl rfl ?_
  refine gf_X3_12 F lyk_157 dX3_findFinal_22 ?_
  refine am_iload_n F 2 dX3_findFinal_25 rfl rfl ?_
  refine am_iconst F (v := (1 : Int32)) dX3_findFinal_26 (by decide) ?_
  obtain ⟨v5, M4, h3, h⟩ := am_bE h
  refine am_callVi F [.ref (z + 158), .int a2, .int (1 : Int32)] lyk_161 (by decide) rfl cw_X3_41 (c_X0_extend l D E z 158 lyk_158 a2 (1 : Int32) M2 v5 M4 h3) yn_X0_extend rfl ⟨Nat.le_of_ble_eq_true rfl, Nat.le_of_ble_eq_true rfl⟩ rfl rfl (Nat.le_of_ble_eq_true rfl) ⟨Nat.zero_le _, Nat.zero_le _⟩ dX3_findFinal_27 rfl ?_
  obtain ⟨q6, h⟩ := am_cE h
  exact am_zret F hr q6 h dX3_findFinal_30
/-! AisleScheduler$Planner.hasFinalWithout(III)Z -/
abbrev rm_X3_hasFinalWithout : Room := { frames := 5, cells := 0, slots := 0, locals := 120 }
theorem yn_X3_hasFinalWithout : am_yn yX3_hasFinalWithout 3 := ⟨⟨by decide +kernel, by decide +kernel⟩, by decide +kernel⟩
def g_X3_hasFinalWithout (a1 : Int32) (a2 : Int32) (a3 : Int32) (M : am_M) : Option (Int32 × am_M) := (am_b (g_X0_begin 158 1 a2 a1 M) (fun _ M2 => (am_b (g_X0_endOf 158 a3 (1 : Int32) M2) (fun v5 M4 => (if v5 < (0 : Int32) then (some ((0 : Int32), M4)) else (some ((1 : Int32), M4)))))))
set_option maxHeartbeats 4000000 in
set_option maxRecDepth 100000 in
theorem c_X3_hasFinalWithout (l : Launch) (D : va_G) (E : Nat → ClassId) (z : Nat) (a1 : Int32) (a2 : Int32) (a3 : Int32) (M : am_M) (r0 : Int32) (M1 : am_M) (h : g_X3_hasFinalWithout a1 a2 a3 M = some (r0, M1)) : am_Mi l yX3_hasFinalWithout cX3_hasFinalWithout 4 (some .boolean) rm_X3_hasFinalWithout D E z [.ref (z + 157), .int a1, .int a2, .int a3] M r0 M1 := by
  unfold g_X3_hasFinalWithout at h
  refine am_of (own := RX3) (by decide +kernel) rfl (by exact Nat.le_of_ble_eq_true rfl) ?_
  intro p e s m args below meth c F hr
  show am_W p l e rm_X3_hasFinalWithout s m args below meth c _ 4 D E z 0 0 M 0 [(0, .ref (z + 157)), (1, .int a1), (2, .int a2), (3, .int a3)] []
  refine am_aload_n F 0 dX3_hasFinalWithout_0 rfl rfl ?_
  refine gf_X3_33 F lyk_157 dX3_hasFinalWithout_1 ?_
  refine am_aload_n F 0 dX3_hasFinalWithout_4 rfl rfl ?_
  refine gf_X3_12 F lyk_157 dX3_hasFinalWithout_5 ?_
  refine am_aload_n F 0 dX3_hasFinalWithout_8 rfl rfl ?_
  refine gf_X3_18 F lyk_157 dX3_hasFinalWithout_9 ?_
  refine am_iload_n F 2 dX3_hasFinalWithout_12 rfl rfl ?_
  refine am_iload_n F 1 dX3_hasFinalWithout_13 rfl rfl ?_
  obtain ⟨_, M2, h1, h⟩ := am_bE h
  refine am_callVv F [.ref (z + 158), .ref (z + 1), .int a2, .int a1] lyk_161 (by decide) rfl cw_X3_37 (c_X0_begin l D E z 158 lyk_158 1 lyk_1 a2 a1 M M2 h1) yn_X0_begin rfl ⟨Nat.le_of_ble_eq_true rfl, Nat.le_of_ble_eq_true rfl⟩ rfl rfl (Nat.le_of_ble_eq_true rfl) ⟨Nat.zero_le _, Nat.zero_le _⟩ dX3_hasFinalWithout_14 rfl ?_
  refine am_aload_n F 0 dX3_hasFinalWithout_17 rfl rfl ?_
  refine gf_X3_33 F lyk_157 dX3_hasFinalWithout_18 ?_
  refine am_aload_n F 0 dX3_hasFinalWithout_21 rfl rfl ?_
  refine gf_X3_12 F lyk_157 dX3_hasFinalWithout_22 ?_
  refine am_iload_n F 3 dX3_hasFinalWithout_25 rfl rfl ?_
  refine am_iconst F (v := (1 : Int32)) dX3_hasFinalWithout_26 (by decide) ?_
  obtain ⟨v5, M4, h3, h⟩ := am_bE h
  refine am_callVi F [.ref (z + 158), .int a3, .int (1 : Int32)] lyk_161 (by decide) rfl cw_X3_45 (c_X0_endOf l D E z 158 lyk_158 a3 (1 : Int32) M2 v5 M4 h3) yn_X0_endOf rfl ⟨Nat.le_of_ble_eq_true rfl, Nat.le_of_ble_eq_true rfl⟩ rfl rfl (Nat.le_of_ble_eq_true rfl) ⟨Nat.zero_le _, Nat.zero_le _⟩ dX3_hasFinalWithout_27 rfl ?_
  refine am_if_lt F (tgt := 37) dX3_hasFinalWithout_30 (by decide) (fun c6 => ?_) (fun c6 => ?_)
  · have h := (if_pos c6).symm.trans h
    refine am_iconst F (v := (0 : Int32)) dX3_hasFinalWithout_37 (by decide) ?_
    exact am_zret F hr (by decide) h dX3_hasFinalWithout_38
  · have h := (if_neg c6).symm.trans h
    refine am_iconst F (v := (1 : Int32)) dX3_hasFinalWithout_33 (by decide) ?_
    refine am_goto F (tgt := 38) dX3_hasFinalWithout_34 (by decide) ?_
    exact am_zret F hr (by decide) h dX3_hasFinalWithout_38
/-! AisleScheduler$Planner.isAffordable(I)Z -/
abbrev rm_X3_isAffordable : Room := { frames := 2, cells := 0, slots := 0, locals := 46 }
theorem yn_X3_isAffordable : am_yn yX3_isAffordable 1 := ⟨⟨by decide +kernel, by decide +kernel⟩, by decide +kernel⟩
def g_X3_isAffordable (a1 : Int32) (M : am_M) : Option (Int32 × am_M) := (am_b (g_X8_robotOf 1 a1 M) (fun v3 M2 => (if (am_g M2 v3 2) < (am_g M 158 4) then (some ((0 : Int32), M2)) else (some ((1 : Int32), M2)))))
set_option maxHeartbeats 4000000 in
set_option maxRecDepth 100000 in
theorem c_X3_isAffordable (l : Launch) (D : va_G) (E : Nat → ClassId) (z : Nat) (a1 : Int32) (M : am_M) (r0 : Int32) (M1 : am_M) (h : g_X3_isAffordable a1 M = some (r0, M1)) : am_Mi l yX3_isAffordable cX3_isAffordable 2 (some .boolean) rm_X3_isAffordable D E z [.ref (z + 157), .int a1] M r0 M1 := by
  unfold g_X3_isAffordable at h
  refine am_of (own := RX3) (by decide +kernel) rfl (by exact Nat.le_of_ble_eq_true rfl) ?_
  intro p e s m args below meth c F hr
  show am_W p l e rm_X3_isAffordable s m args below meth c _ 2 D E z 0 0 M 0 [(0, .ref (z + 157)), (1, .int a1)] []
  refine am_aload_n F 0 dX3_isAffordable_0 rfl rfl ?_
  refine gf_X3_12 F lyk_157 dX3_isAffordable_1 ?_
  refine gf_X3_49 F lyk_158 dX3_isAffordable_4 ?_
  refine am_aload_n F 0 dX3_isAffordable_7 rfl rfl ?_
  refine gf_X3_18 F lyk_157 dX3_isAffordable_8 ?_
  refine am_iload_n F 1 dX3_isAffordable_11 rfl rfl ?_
  obtain ⟨v3, M2, h1, h⟩ := am_bE h
  refine am_callVr F [.int a1] lyk_1 (by decide) rfl cw_X3_53 (c_X8_robotOf l D E z 1 lyk_1 a1 M v3 M2 h1) yn_X8_robotOf rfl ⟨Nat.le_of_ble_eq_true rfl, Nat.le_of_ble_eq_true rfl⟩ rfl rfl (Nat.le_of_ble_eq_true rfl) ⟨Nat.zero_le _, Nat.zero_le _⟩ dX3_isAffordable_12 rfl ?_
  refine gf_X3_57 F (q_X8_robotOf 1 lyk_1 a1 M v3 M2 h1) dX3_isAffordable_15 ?_
  refine am_icmp_gt F (tgt := 25) dX3_isAffordable_18 (by decide) (fun c4 => ?_) (fun c4 => ?_)
  · have h := (if_pos c4).symm.trans h
    refine am_iconst F (v := (0 : Int32)) dX3_isAffordable_25 (by decide) ?_
    exact am_zret F hr (by decide) h dX3_isAffordable_26
  · have h := (if_neg c4).symm.trans h
    refine am_iconst F (v := (1 : Int32)) dX3_isAffordable_21 (by decide) ?_
    refine am_goto F (tgt := 26) dX3_isAffordable_22 (by decide) ?_
    exact am_zret F hr (by decide) h dX3_isAffordable_26
/-! AisleScheduler$Planner.isPlannable(II)Z -/
abbrev rm_X3_isPlannable : Room := { frames := 6, cells := 0, slots := 0, locals := 155 }
theorem yn_X3_isPlannable : am_yn yX3_isPlannable 2 := ⟨⟨by decide +kernel, by decide +kernel⟩, by decide +kernel⟩
def g_X3_isPlannable (a1 : Int32) (a2 : Int32) (M : am_M) : Option (Int32 × am_M) := (am_b (g_X3_findFinal a1 a2 M) (fun v3 M2 => (if v3 = (0 : Int32) then (some ((0 : Int32), M2)) else (am_b (g_X3_isAffordable a1 M2) (fun v6 M5 => (if v6 = (0 : Int32) then (some ((0 : Int32), M5)) else (some ((1 : Int32), M5))))))))
set_option maxHeartbeats 4000000 in
set_option maxRecDepth 100000 in
theorem c_X3_isPlannable (l : Launch) (D : va_G) (E : Nat → ClassId) (z : Nat) (a1 : Int32) (a2 : Int32) (M : am_M) (r0 : Int32) (M1 : am_M) (h : g_X3_isPlannable a1 a2 M = some (r0, M1)) : am_Mi l yX3_isPlannable cX3_isPlannable 3 (some .boolean) rm_X3_isPlannable D E z [.ref (z + 157), .int a1, .int a2] M r0 M1 := by
  unfold g_X3_isPlannable at h
  refine am_of (own := RX3) (by decide +kernel) rfl (by exact Nat.le_of_ble_eq_true rfl) ?_
  intro p e s m args below meth c F hr
  show am_W p l e rm_X3_isPlannable s m args below meth c _ 3 D E z 0 0 M 0 [(0, .ref (z + 157)), (1, .int a1), (2, .int a2)] []
  refine am_aload_n F 0 dX3_isPlannable_0 rfl rfl ?_
  refine am_iload_n F 1 dX3_isPlannable_1 rfl rfl ?_
  refine am_iload_n F 2 dX3_isPlannable_2 rfl rfl ?_
  obtain ⟨v3, M2, h1, h⟩ := am_bE h
  refine am_callVi F [.int a1, .int a2] lyk_157 (by decide) rfl cw_X3_62 (c_X3_findFinal l D E z a1 a2 M v3 M2 h1) yn_X3_findFinal rfl ⟨Nat.le_of_ble_eq_true rfl, Nat.le_of_ble_eq_true rfl⟩ rfl rfl (Nat.le_of_ble_eq_true rfl) ⟨Nat.zero_le _, Nat.zero_le _⟩ dX3_isPlannable_3 rfl ?_
  refine am_if_eq F (tgt := 21) dX3_isPlannable_6 (by decide) (fun c8 => ?_) (fun c8 => ?_)
  · have h := (if_pos c8).symm.trans h
    refine am_iconst F (v := (0 : Int32)) dX3_isPlannable_21 (by decide) ?_
    exact am_zret F hr (by decide) h dX3_isPlannable_22
  · have h := (if_neg c8).symm.trans h
    refine am_aload_n F 0 dX3_isPlannable_9 rfl rfl ?_
    refine am_iload_n F 1 dX3_isPlannable_10 rfl rfl ?_
    obtain ⟨v6, M5, h4, h⟩ := am_bE h
    refine am_callVi F [.int a1] lyk_157 (by decide) rfl cw_X3_66 (c_X3_isAffordable l D E z a1 M2 v6 M5 h4) yn_X3_isAffordable rfl ⟨Nat.le_of_ble_eq_true rfl, Nat.le_of_ble_eq_true rfl⟩ rfl rfl (Nat.le_of_ble_eq_true rfl) ⟨Nat.zero_le _, Nat.zero_le _⟩ dX3_isPlannable_11 rfl ?_
    refine am_if_eq F (tgt := 21) dX3_isPlannable_14 (by decide) (fun c7 => ?_) (fun c7 => ?_)
    · have h := (if_pos c7).symm.trans h
      refine am_iconst F (v := (0 : Int32)) dX3_isPlannable_21 (by decide) ?_
      exact am_zret F hr (by decide) h dX3_isPlannable_22
    · have h := (if_neg c7).symm.trans h
      refine am_iconst F (v := (1 : Int32)) dX3_isPlannable_17 (by decide) ?_
      refine am_goto F (tgt := 22) dX3_isPlannable_18 (by decide) ?_
      exact am_zret F hr (by decide) h dX3_isPlannable_22
/-! AisleScheduler$World.taskOf(I)LAisleScheduler$Task; -/
abbrev rm_X8_taskOf : Room := { frames := 1, cells := 0, slots := 0, locals := 24 }
theorem yn_X8_taskOf : am_yn yX8_taskOf 1 := ⟨⟨by decide +kernel, by decide +kernel⟩, by decide +kernel⟩
def g_X8_taskOf (t0 : Nat) (a1 : Int32) (M : am_M) : Option (Nat × am_M) := (if a1 < (0 : Int32) then (some ((t0 + 14), M)) else (if (12 : Int32) ≤ a1 then (some ((t0 + 14), M)) else (am_ci a1 12 (some (((t0 + 8) + 32 + a1.toNatClampNeg), M)))))
set_option maxHeartbeats 4000000 in
set_option maxRecDepth 100000 in
theorem c_X8_taskOf (l : Launch) (D : va_G) (E : Nat → ClassId) (z : Nat) (t0 : Nat) (y0 : am_ly t0 = (8, 0)) (a1 : Int32) (M : am_M) (r0 : Nat) (M1 : am_M) (h : g_X8_taskOf t0 a1 M = some (r0, M1)) : am_Mr l yX8_taskOf cX8_taskOf 3 (some (.object "AisleScheduler$Task")) rm_X8_taskOf D E z [.ref (z + t0), .int a1] M r0 M1 := by
  unfold g_X8_taskOf at h
  refine am_of (own := RX8) (by decide +kernel) rfl (by exact Nat.le_of_ble_eq_true rfl) ?_
  intro p e s m args below meth c F hr
  show am_W p l e rm_X8_taskOf s m args below meth c _ 3 D E z 0 0 M 0 [(0, .ref (z + t0)), (1, .int a1)] []
  refine am_iload_n F 1 dX8_taskOf_0 rfl rfl ?_
  refine am_if_lt F (tgt := 22) dX8_taskOf_1 (by decide) (fun c3 => ?_) (fun c3 => ?_)
  · have h := (if_pos c3).symm.trans h
    refine am_null F dX8_taskOf_22 ?_
    refine am_astore_nN F [(2, .null), (0, .ref (z + t0)), (1, .int a1)] dX8_taskOf_23 rfl (by decide) rfl ?_
    refine am_aload_nN F 0 dX8_taskOf_24 rfl rfl ?_
    refine am_ifnonnullN F dX8_taskOf_25 ?_
    refine am_aload_n F 1 dX8_taskOf_28 rfl rfl ?_
    refine gf_X8_40 F y0 dX8_taskOf_29 ?_
    refine am_goto F (tgt := 36) dX8_taskOf_32 (by decide) ?_
    exact am_aret F hr h dX8_taskOf_36
  · have h := (if_neg c3).symm.trans h
    refine am_iload_n F 1 dX8_taskOf_4 rfl rfl ?_
    refine am_aload_n F 0 dX8_taskOf_5 rfl rfl ?_
    refine gf_X8_30 F y0 dX8_taskOf_6 ?_
    refine am_alen F (lyf_8_tasks y0) (by decide) (by decide) (t0 := 3) rfl (v := (12 : Int32)) (by decide) dX8_taskOf_9 ?_
    refine am_icmp_ge F (tgt := 22) dX8_taskOf_10 (by decide) (fun c2 => ?_) (fun c2 => ?_)
    · have h := (if_pos c2).symm.trans h
      refine am_null F dX8_taskOf_22 ?_
      refine am_astore_nN F [(2, .null), (0, .ref (z + t0)), (1, .int a1)] dX8_taskOf_23 rfl (by decide) rfl ?_
      refine am_aload_nN F 0 dX8_taskOf_24 rfl rfl ?_
      refine am_ifnonnullN F dX8_taskOf_25 ?_
      refine am_aload_n F 1 dX8_taskOf_28 rfl rfl ?_
      refine gf_X8_40 F y0 dX8_taskOf_29 ?_
      refine am_goto F (tgt := 36) dX8_taskOf_32 (by decide) ?_
      exact am_aret F hr h dX8_taskOf_36
    · have h := (if_neg c2).symm.trans h
      refine am_aload_n F 0 dX8_taskOf_13 rfl rfl ?_
      refine gf_X8_30 F y0 dX8_taskOf_14 ?_
      refine am_iload_n F 1 dX8_taskOf_17 rfl rfl ?_
      obtain ⟨q1, h⟩ := am_ciE h
      refine am_aldq F 3 (fun j => (t0 + 8) + 32 + j) (lyf_8_tasks y0) (by decide) (by decide) rfl rfl q1 dX8_taskOf_18 ?_
      refine am_goto F (tgt := 23) dX8_taskOf_19 (by decide) ?_
      refine am_astore_n F [(2, .ref (z + ((t0 + 8) + 32 + a1.toNatClampNeg))), (0, .ref (z + t0)), (1, .int a1)] dX8_taskOf_23 rfl (by decide) rfl ?_
      refine am_aload_n F 0 dX8_taskOf_24 rfl rfl ?_
      refine am_ifnonnull F (tgt := 35) dX8_taskOf_25 (by decide) ?_
      refine am_aload_n F 0 dX8_taskOf_35 rfl rfl ?_
      exact am_aret F hr h dX8_taskOf_36
theorem q_X8_taskOf (t0 : Nat) (h0 : am_ly t0 = (8, 0)) (a1 : Int32) (M : am_M) (v : Nat) (M1 : am_M) (h : g_X8_taskOf t0 a1 M = some (v, M1)) : am_ly v = (7, 0) := by
  unfold g_X8_taskOf at h
  by_cases c1 : a1 < (0 : Int32)
  · rw [if_pos c1] at h; cases h; exact lyf_8_noTask h0
  · rw [if_neg c1] at h
    by_cases c2 : (12 : Int32) ≤ a1
    · rw [if_pos c2] at h; cases h; exact lyf_8_noTask h0
    · rw [if_neg c2] at h
      obtain ⟨q, h⟩ := am_ciE h
      cases h
      exact lye_23 (lyf_8_tasks h0) q
/-! AisleScheduler$Task.become(III)V -/
abbrev rm_X7_become : Room := { frames := 1, cells := 0, slots := 0, locals := 24 }
theorem yn_X7_become : am_yn yX7_become 3 := ⟨⟨by decide +kernel, by decide +kernel⟩, by decide +kernel⟩
def g_X7_become (t0 : Nat) (a1 : Int32) (a2 : Int32) (a3 : Int32) (M : am_M) : Option (Unit × am_M) := (some ((), (am_s (am_s (am_s M t0 5 a1) t0 6 a2) t0 7 a3)))
set_option maxHeartbeats 4000000 in
set_option maxRecDepth 100000 in
theorem c_X7_become (l : Launch) (D : va_G) (E : Nat → ClassId) (z : Nat) (t0 : Nat) (y0 : am_ly t0 = (7, 0)) (a1 : Int32) (a2 : Int32) (a3 : Int32) (M : am_M)  (M1 : am_M) (h : g_X7_become t0 a1 a2 a3 M = some ((), M1)) : am_Mv l yX7_become cX7_become 4 none rm_X7_become D E z [.ref (z + t0), .int a1, .int a2, .int a3] M M1 := by
  unfold g_X7_become at h
  refine am_of (own := RX7) (by decide +kernel) rfl (by exact Nat.le_of_ble_eq_true rfl) ?_
  intro p e s m args below meth c F hr
  show am_W p l e rm_X7_become s m args below meth c _ 4 D E z 0 0 M 0 [(0, .ref (z + t0)), (1, .int a1), (2, .int a2), (3, .int a3)] []
  refine am_aload_n F 0 dX7_become_0 rfl rfl ?_
  refine am_iload_n F 1 dX7_become_1 rfl rfl ?_
  refine pf_X7_34 F y0 dX7_become_2 ?_
  refine am_aload_n F 0 dX7_become_5 rfl rfl ?_
  refine am_iload_n F 2 dX7_become_6 rfl rfl ?_
  refine pf_X7_37 F y0 dX7_become_7 ?_
  refine am_aload_n F 0 dX7_become_10 rfl rfl ?_
  refine am_iload_n F 3 dX7_become_11 rfl rfl ?_
  refine pf_X7_40 F y0 dX7_become_12 ?_
  exact am_vret F hr h dX7_become_15
/-! AisleScheduler$World.reopenTaskOf(LAisleScheduler$Robot;)V -/
abbrev rm_X8_reopenTaskOf : Room := { frames := 2, cells := 0, slots := 0, locals := 47 }
theorem yn_X8_reopenTaskOf : am_yn yX8_reopenTaskOf 1 := ⟨⟨by decide +kernel, by decide +kernel⟩, by decide +kernel⟩
def g_X8_reopenTaskOf (t0 : Nat) (t1 : Nat) (M : am_M) : Option (Unit × am_M) := (if (am_g M t1 3) < (0 : Int32) then (some ((), M)) else (am_b (g_X8_taskOf t0 (am_g M t1 3) M) (fun v3 M2 => (am_b (g_X7_become v3 (0 : Int32) (0 : Int32) (-1 : Int32) M2) (fun _ M5 => (some ((), (am_s M5 t1 3 (-1 : Int32)))))))))
set_option maxHeartbeats 4000000 in
set_option maxRecDepth 100000 in
theorem c_X8_reopenTaskOf (l : Launch) (D : va_G) (E : Nat → ClassId) (z : Nat) (t0 : Nat) (y0 : am_ly t0 = (8, 0)) (t1 : Nat) (y1 : am_ly t1 = (4, 0)) (M : am_M)  (M1 : am_M) (h : g_X8_reopenTaskOf t0 t1 M = some ((), M1)) : am_Mv l yX8_reopenTaskOf cX8_reopenTaskOf 2 none rm_X8_reopenTaskOf D E z [.ref (z + t0), .ref (z + t1)] M M1 := by
  unfold g_X8_reopenTaskOf at h
  refine am_of (own := RX8) (by decide +kernel) rfl (by exact Nat.le_of_ble_eq_true rfl) ?_
  intro p e s m args below meth c F hr
  show am_W p l e rm_X8_reopenTaskOf s m args below meth c _ 2 D E z 0 0 M 0 [(0, .ref (z + t0)), (1, .ref (z + t1))] []
  refine am_aload_n F 1 dX8_reopenTaskOf_0 rfl rfl ?_
  refine gf_X8_138 F y1 dX8_reopenTaskOf_1 ?_
  refine am_if_lt F (tgt := 26) dX8_reopenTaskOf_4 (by decide) (fun c6 => ?_) (fun c6 => ?_)
  · have h := (if_pos c6).symm.trans h
    exact am_vret F hr h dX8_reopenTaskOf_26
  · have h := (if_neg c6).symm.trans h
    refine am_aload_n F 0 dX8_reopenTaskOf_7 rfl rfl ?_
    refine am_aload_n F 1 dX8_reopenTaskOf_8 rfl rfl ?_
    refine gf_X8_138 F y1 dX8_reopenTaskOf_9 ?_
    obtain ⟨v3, M2, h1, h⟩ := am_bE h
    refine am_callVr F [.int (am_g M t1 3)] y0 (by decide) rfl cw_X8_76 (c_X8_taskOf l D E z t0 y0 (am_g M t1 3) M v3 M2 h1) yn_X8_taskOf rfl ⟨Nat.le_of_ble_eq_true rfl, Nat.le_of_ble_eq_true rfl⟩ rfl rfl (Nat.le_of_ble_eq_true rfl) ⟨Nat.zero_le _, Nat.zero_le _⟩ dX8_reopenTaskOf_12 rfl ?_
    refine am_iconst F (v := (0 : Int32)) dX8_reopenTaskOf_15 (by decide) ?_
    refine am_iconst F (v := (0 : Int32)) dX8_reopenTaskOf_16 (by decide) ?_
    refine am_iconst F (v := (-1 : Int32)) dX8_reopenTaskOf_17 (by decide) ?_
    obtain ⟨_, M5, h4, h⟩ := am_bE h
    refine am_callVv F [.int (0 : Int32), .int (0 : Int32), .int (-1 : Int32)] (q_X8_taskOf t0 y0 (am_g M t1 3) M v3 M2 h1) (by decide) rfl cw_X8_141 (c_X7_become l D E z v3 (q_X8_taskOf t0 y0 (am_g M t1 3) M v3 M2 h1) (0 : Int32) (0 : Int32) (-1 : Int32) M2 M5 h4) yn_X7_become rfl ⟨Nat.le_of_ble_eq_true rfl, Nat.le_of_ble_eq_true rfl⟩ rfl rfl (Nat.le_of_ble_eq_true rfl) ⟨Nat.zero_le _, Nat.zero_le _⟩ dX8_reopenTaskOf_18 rfl ?_
    refine am_aload_n F 1 dX8_reopenTaskOf_21 rfl rfl ?_
    refine am_iconst F (v := (-1 : Int32)) dX8_reopenTaskOf_22 (by decide) ?_
    refine pf_X8_138 F y1 dX8_reopenTaskOf_23 ?_
    exact am_vret F hr h dX8_reopenTaskOf_26
