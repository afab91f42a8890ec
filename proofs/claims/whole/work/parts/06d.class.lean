/-! printed by wip/whole/drive.py -/
/-! AisleScheduler$Script.parse()I -/
abbrev rm_X5_parse : Room := { frames := 5, cells := 0, slots := 0, locals := 108 }
theorem yn_X5_parse : am_yn yX5_parse 0 := ⟨⟨by decide +kernel, by decide +kernel⟩, by decide +kernel⟩
def g_X5_parse_L10  : Nat → am_M → Option ((Nat) × am_M)
  | 0, _ => none
  | n + 1, M => (am_b (g_X5_parseEntry  M) (fun v3 M2 => (if v3 = (0 : Int32) then (some (17, M2)) else (if (am_g (am_s M2 169 1 ((am_g M2 169 1) + (1 : Int32))) 169 0) ≤ (am_g (am_s M2 169 1 ((am_g M2 169 1) + (1 : Int32))) 169 6) then (some (52, (am_s M2 169 1 ((am_g M2 169 1) + (1 : Int32))))) else (if (am_g (am_s M2 169 1 ((am_g M2 169 1) + (1 : Int32))) 169 1) < (14 : Int32) then (g_X5_parse_L10  n  (am_s M2 169 1 ((am_g M2 169 1) + (1 : Int32)))) else (some (52, (am_s M2 169 1 ((am_g M2 169 1) + (1 : Int32))))))))))
set_option maxHeartbeats 4000000 in
set_option maxRecDepth 100000 in
theorem cl_X5_parse_L10 {l : Launch} {p : Program} {e : Env} {s : State} {m : MethodId} {args : Array Value} {below : List Frame} {meth : Method} {c : Code} {Q : State → Prop} {D : va_G} {E : Nat → ClassId} {z : Nat} (F : am_F p s m args meth c cX5_parse 1 RX5 D E z)  : ∀ (n : Nat) (M : am_M) (x : Nat) (M1 : am_M), g_X5_parse_L10  n  M = some (x, M1) → ((x = 17 → am_W p l e rm_X5_parse s m args below meth c Q 1 D E z 0 0 M1 17 [(0, .ref (z + 169))] []) ∧ (x = 52 → am_W p l e rm_X5_parse s m args below meth c Q 1 D E z 0 0 M1 52 [(0, .ref (z + 169))] [])) → am_W p l e rm_X5_parse s m args below meth c Q 1 D E z 0 0 M 10 [(0, .ref (z + 169))] [] := by
  intro n
  induction n with
  | zero => intro  M x M1 h K; cases h
  | succ n ih =>
    intro  M x M1 h K
    rw [g_X5_parse_L10] at h
    refine am_aload_n F 0 dX5_parse_10 rfl rfl ?_
    obtain ⟨v3, M2, h1, h⟩ := am_bE h
    refine am_callVi F [] lyk_169 (by decide) rfl cw_X5_38 (c_X5_parseEntry l D E z  M v3 M2 h1) yn_X5_parseEntry rfl ⟨Nat.le_of_ble_eq_true rfl, Nat.le_of_ble_eq_true rfl⟩ rfl rfl (Nat.le_of_ble_eq_true rfl) ⟨Nat.zero_le _, Nat.zero_le _⟩ dX5_parse_11 rfl ?_
    refine am_if_ne F (tgt := 22) dX5_parse_14 (by decide) (fun c6 => ?_) (fun c6 => ?_)
    · have h := (if_neg c6).symm.trans h
      refine am_aload_n F 0 dX5_parse_22 rfl rfl ?_
      refine am_dup F dX5_parse_23 rfl ?_
      refine gf_X5_32 F lyk_169 dX5_parse_24 ?_
      refine am_iconst F (v := (1 : Int32)) dX5_parse_27 (by decide) ?_
      refine am_iadd F dX5_parse_28 ?_
      refine pf_X5_32 F lyk_169 dX5_parse_29 ?_
      refine am_aload_n F 0 dX5_parse_32 rfl rfl ?_
      refine gf_X5_35 F lyk_169 dX5_parse_33 ?_
      refine am_aload_n F 0 dX5_parse_36 rfl rfl ?_
      refine gf_X5_24 F lyk_169 dX5_parse_37 ?_
      refine am_icmp_ge F (tgt := 52) dX5_parse_40 (by decide) (fun c5 => ?_) (fun c5 => ?_)
      · have h := (if_pos c5).symm.trans h
        cases h
        exact am_sub (lv' := [(0, .ref (z + 169))]) [0] rfl (K.2 rfl)
      · have h := (if_neg c5).symm.trans h
        refine am_aload_n F 0 dX5_parse_43 rfl rfl ?_
        refine gf_X5_32 F lyk_169 dX5_parse_44 ?_
        refine am_bipush F (v := (14 : Int32)) dX5_parse_47 (by decide) ?_
        refine am_icmp_lt F (tgt := 10) dX5_parse_49 (by decide) (fun c4 => ?_) (fun c4 => ?_)
        · have h := (if_pos c4).symm.trans h
          exact am_sub (lv' := [(0, .ref (z + 169))]) [0] rfl (ih  (am_s M2 169 1 ((am_g M2 169 1) + (1 : Int32))) _ _ h K)
        · have h := (if_neg c4).symm.trans h
          cases h
          exact am_sub (lv' := [(0, .ref (z + 169))]) [0] rfl (K.2 rfl)
    · have h := (if_pos c6).symm.trans h
      cases h
      exact am_sub (lv' := [(0, .ref (z + 169))]) [0] rfl (K.1 rfl)
def g_X5_parse  (M : am_M) : Option (Int32 × am_M) := (am_b (g_X5_parse_L10  am_fu  (am_s (am_s M 169 1 (0 : Int32)) 169 6 (0 : Int32))) (fun x7 M8 => (if x7 = 17 then (some ((am_g M8 169 6), M8)) else (if (am_g M8 169 0) ≤ (am_g M8 169 6) then (some ((-1 : Int32), M8)) else (some ((am_g M8 169 6), M8))))))
set_option maxHeartbeats 4000000 in
set_option maxRecDepth 100000 in
theorem c_X5_parse (l : Launch) (D : va_G) (E : Nat → ClassId) (z : Nat)  (M : am_M) (r0 : Int32) (M1 : am_M) (h : g_X5_parse  M = some (r0, M1)) : am_Mi l yX5_parse cX5_parse 1 (some .int) rm_X5_parse D E z [.ref (z + 169)] M r0 M1 := by
  unfold g_X5_parse at h
  refine am_of (own := RX5) (by decide +kernel) rfl (by exact Nat.le_of_ble_eq_true rfl) ?_
  intro p e s m args below meth c F hr
  show am_W p l e rm_X5_parse s m args below meth c _ 1 D E z 0 0 M 0 [(0, .ref (z + 169))] []
  refine am_aload_n F 0 dX5_parse_0 rfl rfl ?_
  refine am_iconst F (v := (0 : Int32)) dX5_parse_1 (by decide) ?_
  refine pf_X5_32 F lyk_169 dX5_parse_2 ?_
  refine am_aload_n F 0 dX5_parse_5 rfl rfl ?_
  refine am_iconst F (v := (0 : Int32)) dX5_parse_6 (by decide) ?_
  refine pf_X5_35 F lyk_169 dX5_parse_7 ?_
  obtain ⟨x7, M8, h9, h⟩ := am_bE h
  refine am_sub (lv' := [(0, .ref (z + 169))]) [0] rfl (cl_X5_parse_L10 F  am_fu  (am_s (am_s M 169 1 (0 : Int32)) 169 6 (0 : Int32)) x7 M8 h9 ⟨fun c10 => ?_, fun c10 => ?_⟩)
  · have h := (if_pos c10).symm.trans h
    refine am_aload_n F 0 dX5_parse_17 rfl rfl ?_
    refine gf_X5_35 F lyk_169 dX5_parse_18 ?_
    exact am_iret F hr h dX5_parse_21
  · have h := (if_neg (by rw [c10]; decide)).symm.trans h
    refine am_aload_n F 0 dX5_parse_52 rfl rfl ?_
    refine gf_X5_35 F lyk_169 dX5_parse_53 ?_
    refine am_aload_n F 0 dX5_parse_56 rfl rfl ?_
    refine gf_X5_24 F lyk_169 dX5_parse_57 ?_
    refine am_icmp_ge F (tgt := 70) dX5_parse_60 (by decide) (fun c11 => ?_) (fun c11 => ?_)
    · have h := (if_pos c11).symm.trans h
      refine am_iconst F (v := (-1 : Int32)) dX5_parse_70 (by decide) ?_
      exact am_iret F hr h dX5_parse_71
    · have h := (if_neg c11).symm.trans h
      refine am_aload_n F 0 dX5_parse_63 rfl rfl ?_
      refine gf_X5_35 F lyk_169 dX5_parse_64 ?_
      refine am_goto F (tgt := 71) dX5_parse_67 (by decide) ?_
      exact am_iret F hr h dX5_parse_71
/-! AisleScheduler$Shelves.store(IIIII)V -/
abbrev rm_X6_store : Room := { frames := 2, cells := 0, slots := 0, locals := 46 }
theorem yn_X6_store : am_yn yX6_store 5 := ⟨⟨by decide +kernel, by decide +kernel⟩, by decide +kernel⟩
def g_X6_store (a1 : Int32) (a2 : Int32) (a3 : Int32) (a4 : Int32) (a5 : Int32) (M : am_M) : Option (Unit × am_M) := (am_b (g_X9_put 167 6 a1 (1 : Int32) M) (fun _ M2 => (am_b (g_X9_put 168 24 (a1 * (4 : Int32)) a2 M2) (fun _ M4 => (am_b (g_X9_put 168 24 ((a1 * (4 : Int32)) + (1 : Int32)) a3 M4) (fun _ M6 => (am_b (g_X9_put 168 24 ((a1 * (4 : Int32)) + (2 : Int32)) a4 M6) (fun _ M8 => (am_b (g_X9_put 168 24 ((a1 * (4 : Int32)) + (3 : Int32)) a5 M8) (fun _ M10 => (some ((), M10))))))))))))
set_option maxHeartbeats 4000000 in
set_option maxRecDepth 100000 in
theorem c_X6_store (l : Launch) (D : va_G) (E : Nat → ClassId) (z : Nat) (a1 : Int32) (a2 : Int32) (a3 : Int32) (a4 : Int32) (a5 : Int32) (M : am_M)  (M1 : am_M) (h : g_X6_store a1 a2 a3 a4 a5 M = some ((), M1)) : am_Mv l yX6_store cX6_store 6 none rm_X6_store D E z [.ref (z + 166), .int a1, .int a2, .int a3, .int a4, .int a5] M M1 := by
  unfold g_X6_store at h
  refine am_of (own := RX6) (by decide +kernel) rfl (by exact Nat.le_of_ble_eq_true rfl) ?_
  intro p e s m args below meth c F hr
  show am_W p l e rm_X6_store s m args below meth c _ 6 D E z 0 0 M 0 [(0, .ref (z + 166)), (1, .int a1), (2, .int a2), (3, .int a3), (4, .int a4), (5, .int a5)] []
  refine am_aload_n F 0 dX6_store_0 rfl rfl ?_
  refine gf_X6_9 F lyk_166 dX6_store_1 ?_
  refine am_iload_n F 1 dX6_store_4 rfl rfl ?_
  refine am_iconst F (v := (1 : Int32)) dX6_store_5 (by decide) ?_
  obtain ⟨_, M2, h1, h⟩ := am_bE h
  refine am_callSNv F [.ref (z + 167), .int a1, .int (1 : Int32)] cw_X6_18  (c_X9_put l D E z 167 6 lyk_167 a1 (1 : Int32) M M2 h1) yn_X9_put rfl ⟨Nat.le_of_ble_eq_true rfl, Nat.le_of_ble_eq_true rfl⟩ rfl rfl (Nat.le_of_ble_eq_true rfl) ⟨Nat.zero_le _, Nat.zero_le _⟩ dX6_store_6 rfl ?_
  refine am_aload_n F 0 dX6_store_9 rfl rfl ?_
  refine gf_X6_15 F lyk_166 dX6_store_10 ?_
  refine am_iload_n F 1 dX6_store_13 rfl rfl ?_
  refine am_iconst F (v := (4 : Int32)) dX6_store_14 (by decide) ?_
  refine am_imul F dX6_store_15 ?_
  refine am_iload_n F 2 dX6_store_16 rfl rfl ?_
  obtain ⟨_, M4, h3, h⟩ := am_bE h
  refine am_callSNv F [.ref (z + 168), .int (a1 * (4 : Int32)), .int a2] cw_X6_18  (c_X9_put l D E z 168 24 lyk_168 (a1 * (4 : Int32)) a2 M2 M4 h3) yn_X9_put rfl ⟨Nat.le_of_ble_eq_true rfl, Nat.le_of_ble_eq_true rfl⟩ rfl rfl (Nat.le_of_ble_eq_true rfl) ⟨Nat.zero_le _, Nat.zero_le _⟩ dX6_store_17 rfl ?_
  refine am_aload_n F 0 dX6_store_20 rfl rfl ?_
  refine gf_X6_15 F lyk_166 dX6_store_21 ?_
  refine am_iload_n F 1 dX6_store_24 rfl rfl ?_
  refine am_iconst F (v := (4 : Int32)) dX6_store_25 (by decide) ?_
  refine am_imul F dX6_store_26 ?_
  refine am_iconst F (v := (1 : Int32)) dX6_store_27 (by decide) ?_
  refine am_iadd F dX6_store_28 ?_
  refine am_iload_n F 3 dX6_store_29 rfl rfl ?_
  obtain ⟨_, M6, h5, h⟩ := am_bE h
  refine am_callSNv F [.ref (z + 168), .int ((a1 * (4 : Int32)) + (1 : Int32)), .int a3] cw_X6_18  (c_X9_put l D E z 168 24 lyk_168 ((a1 * (4 : Int32)) + (1 : Int32)) a3 M4 M6 h5) yn_X9_put rfl ⟨Nat.le_of_ble_eq_true rfl, Nat.le_of_ble_eq_true rfl⟩ rfl rfl (Nat.le_of_ble_eq_true rfl) ⟨Nat.zero_le _, Nat.zero_le _⟩ dX6_store_30 rfl ?_
  refine am_aload_n F 0 dX6_store_33 rfl rfl ?_
  refine gf_X6_15 F lyk_166 dX6_store_34 ?_
  refine am_iload_n F 1 dX6_store_37 rfl rfl ?_
  refine am_iconst F (v := (4 : Int32)) dX6_store_38 (by decide) ?_
  refine am_imul F dX6_store_39 ?_
  refine am_iconst F (v := (2 : Int32)) dX6_store_40 (by decide) ?_
  refine am_iadd F dX6_store_41 ?_
  refine am_iload F 4 dX6_store_42 rfl ?_
  obtain ⟨_, M8, h7, h⟩ := am_bE h
  refine am_callSNv F [.ref (z + 168), .int ((a1 * (4 : Int32)) + (2 : Int32)), .int a4] cw_X6_18  (c_X9_put l D E z 168 24 lyk_168 ((a1 * (4 : Int32)) + (2 : Int32)) a4 M6 M8 h7) yn_X9_put rfl ⟨Nat.le_of_ble_eq_true rfl, Nat.le_of_ble_eq_true rfl⟩ rfl rfl (Nat.le_of_ble_eq_true rfl) ⟨Nat.zero_le _, Nat.zero_le _⟩ dX6_store_44 rfl ?_
  refine am_aload_n F 0 dX6_store_47 rfl rfl ?_
  refine gf_X6_15 F lyk_166 dX6_store_48 ?_
  refine am_iload_n F 1 dX6_store_51 rfl rfl ?_
  refine am_iconst F (v := (4 : Int32)) dX6_store_52 (by decide) ?_
  refine am_imul F dX6_store_53 ?_
  refine am_iconst F (v := (3 : Int32)) dX6_store_54 (by decide) ?_
  refine am_iadd F dX6_store_55 ?_
  refine am_iload F 5 dX6_store_56 rfl ?_
  obtain ⟨_, M10, h9, h⟩ := am_bE h
  refine am_callSNv F [.ref (z + 168), .int ((a1 * (4 : Int32)) + (3 : Int32)), .int a5] cw_X6_18  (c_X9_put l D E z 168 24 lyk_168 ((a1 * (4 : Int32)) + (3 : Int32)) a5 M8 M10 h9) yn_X9_put rfl ⟨Nat.le_of_ble_eq_true rfl, Nat.le_of_ble_eq_true rfl⟩ rfl rfl (Nat.le_of_ble_eq_true rfl) ⟨Nat.zero_le _, Nat.zero_le _⟩ dX6_store_58 rfl ?_
  exact am_vret F hr h dX6_store_61
/-! AisleScheduler$Shelves.held(I)I -/
abbrev rm_X6_held : Room := { frames := 2, cells := 0, slots := 0, locals := 45 }
theorem yn_X6_held : am_yn yX6_held 1 := ⟨⟨by decide +kernel, by decide +kernel⟩, by decide +kernel⟩
def g_X6_held_L4 (a1 : Int32) : Nat → Int32 → Int32 → am_M → Option ((Int32) × am_M)
  | 0, _, _, _ => none
  | n + 1, a2, a3, M => (if (3 : Int32) ≤ a3 then (some (a2, M)) else (am_b (g_X9_at 167 6 ((a1 * (3 : Int32)) + a3) M) (fun v3 M2 => (g_X6_held_L4 a1 n (a2 + v3) (a3 + (1 : Int32)) M2))))
set_option maxHeartbeats 4000000 in
set_option maxRecDepth 100000 in
theorem cl_X6_held_L4 {l : Launch} {p : Program} {e : Env} {s : State} {m : MethodId} {args : Array Value} {below : List Frame} {meth : Method} {c : Code} {Q : State → Prop} {D : va_G} {E : Nat → ClassId} {z : Nat} (F : am_F p s m args meth c cX6_held 4 RX6 D E z) (a1 : Int32) : ∀ (n : Nat) (a2 : Int32) (a3 : Int32) (M : am_M) (x : Int32) (M1 : am_M), g_X6_held_L4 a1 n a2 a3 M = some (x, M1) → (am_W p l e rm_X6_held s m args below meth c Q 4 D E z 0 0 M1 30 [(2, .int x)] []) → am_W p l e rm_X6_held s m args below meth c Q 4 D E z 0 0 M 4 [(0, .ref (z + 166)), (1, .int a1), (2, .int a2), (3, .int a3)] [] := by
  intro n
  induction n with
  | zero => intro a2 a3 M x M1 h K; cases h
  | succ n ih =>
    intro a2 a3 M x M1 h K
    rw [g_X6_held_L4] at h
    refine am_iload_n F 3 dX6_held_4 rfl rfl ?_
    refine am_iconst F (v := (3 : Int32)) dX6_held_5 (by decide) ?_
    refine am_icmp_ge F (tgt := 30) dX6_held_6 (by decide) (fun c4 => ?_) (fun c4 => ?_)
    · have h := (if_pos c4).symm.trans h
      cases h
      exact am_sub (lv' := [(2, .int a2)]) [2] rfl (K)
    · have h := (if_neg c4).symm.trans h
      refine am_iload_n F 2 dX6_held_9 rfl rfl ?_
      refine am_aload_n F 0 dX6_held_10 rfl rfl ?_
      refine gf_X6_9 F lyk_166 dX6_held_11 ?_
      refine am_iload_n F 1 dX6_held_14 rfl rfl ?_
      refine am_iconst F (v := (3 : Int32)) dX6_held_15 (by decide) ?_
      refine am_imul F dX6_held_16 ?_
      refine am_iload_n F 3 dX6_held_17 rfl rfl ?_
      refine am_iadd F dX6_held_18 ?_
      obtain ⟨v3, M2, h1, h⟩ := am_bE h
      refine am_callSNi F [.ref (z + 167), .int ((a1 * (3 : Int32)) + a3)] cw_X6_22  (c_X9_at l D E z 167 6 lyk_167 ((a1 * (3 : Int32)) + a3) M v3 M2 h1) yn_X9_at rfl ⟨Nat.le_of_ble_eq_true rfl, Nat.le_of_ble_eq_true rfl⟩ rfl rfl (Nat.le_of_ble_eq_true rfl) ⟨Nat.zero_le _, Nat.zero_le _⟩ dX6_held_19 rfl ?_
      refine am_iadd F dX6_held_22 ?_
      refine am_istore_n F [(2, .int (a2 + v3)), (0, .ref (z + 166)), (1, .int a1), (3, .int a3)] dX6_held_23 rfl (by decide) rfl ?_
      refine am_iinc F [(3, .int (a3 + (1 : Int32))), (2, .int (a2 + v3)), (0, .ref (z + 166)), (1, .int a1)] 3 dX6_held_24 (by decide) rfl rfl rfl ?_
      refine am_goto F (tgt := 4) dX6_held_27 (by decide) ?_
      exact am_sub (lv' := [(0, .ref (z + 166)), (1, .int a1), (2, .int (a2 + v3)), (3, .int (a3 + (1 : Int32)))]) [2, 3, 1, 0] rfl (ih (a2 + v3) (a3 + (1 : Int32)) M2 _ _ h K)
def g_X6_held (a1 : Int32) (M : am_M) : Option (Int32 × am_M) := (am_b (g_X6_held_L4 a1 am_fu (0 : Int32) (0 : Int32) M) (fun x5 M6 => (some (x5, M6))))
set_option maxHeartbeats 4000000 in
set_option maxRecDepth 100000 in
theorem c_X6_held (l : Launch) (D : va_G) (E : Nat → ClassId) (z : Nat) (a1 : Int32) (M : am_M) (r0 : Int32) (M1 : am_M) (h : g_X6_held a1 M = some (r0, M1)) : am_Mi l yX6_held cX6_held 4 (some .int) rm_X6_held D E z [.ref (z + 166), .int a1] M r0 M1 := by
  unfold g_X6_held at h
  refine am_of (own := RX6) (by decide +kernel) rfl (by exact Nat.le_of_ble_eq_true rfl) ?_
  intro p e s m args below meth c F hr
  show am_W p l e rm_X6_held s m args below meth c _ 4 D E z 0 0 M 0 [(0, .ref (z + 166)), (1, .int a1)] []
  refine am_iconst F (v := (0 : Int32)) dX6_held_0 (by decide) ?_
  refine am_istore_n F [(2, .int (0 : Int32)), (0, .ref (z + 166)), (1, .int a1)] dX6_held_1 rfl (by decide) rfl ?_
  refine am_iconst F (v := (0 : Int32)) dX6_held_2 (by decide) ?_
  refine am_istore_n F [(3, .int (0 : Int32)), (2, .int (0 : Int32)), (0, .ref (z + 166)), (1, .int a1)] dX6_held_3 rfl (by decide) rfl ?_
  obtain ⟨x5, M6, h7, h⟩ := am_bE h
  refine am_sub (lv' := [(0, .ref (z + 166)), (1, .int a1), (2, .int (0 : Int32)), (3, .int (0 : Int32))]) [2, 3, 1, 0] rfl (cl_X6_held_L4 F a1 am_fu (0 : Int32) (0 : Int32) M x5 M6 h7 ?_)
  refine am_iload_n F 0 dX6_held_30 rfl rfl ?_
  exact am_iret F hr h dX6_held_31
/-! AisleScheduler$Task.begin(IIIII)V -/
abbrev rm_X7_begin : Room := { frames := 2, cells := 0, slots := 0, locals := 47 }
theorem yn_X7_begin : am_yn yX7_begin 5 := ⟨⟨by decide +kernel, by decide +kernel⟩, by decide +kernel⟩
def g_X7_begin (t0 : Nat) (a1 : Int32) (a2 : Int32) (a3 : Int32) (a4 : Int32) (a5 : Int32) (M : am_M) : Option (Unit × am_M) := (am_b (g_X7_become t0 (0 : Int32) (0 : Int32) (-1 : Int32) (am_s (am_s (am_s (am_s (am_s (am_s M t0 0 a1) t0 1 a2) t0 2 a3) t0 3 a4) t0 4 a5) t0 8 (-1 : Int32))) (fun _ M2 => (some ((), M2))))
set_option maxHeartbeats 4000000 in
set_option maxRecDepth 100000 in
theorem c_X7_begin (l : Launch) (D : va_G) (E : Nat → ClassId) (z : Nat) (t0 : Nat) (y0 : am_ly t0 = (7, 0)) (a1 : Int32) (a2 : Int32) (a3 : Int32) (a4 : Int32) (a5 : Int32) (M : am_M)  (M1 : am_M) (h : g_X7_begin t0 a1 a2 a3 a4 a5 M = some ((), M1)) : am_Mv l yX7_begin cX7_begin 6 none rm_X7_begin D E z [.ref (z + t0), .int a1, .int a2, .int a3, .int a4, .int a5] M M1 := by
  unfold g_X7_begin at h
  refine am_of (own := RX7) (by decide +kernel) rfl (by exact Nat.le_of_ble_eq_true rfl) ?_
  intro p e s m args below meth c F hr
  show am_W p l e rm_X7_begin s m args below meth c _ 6 D E z 0 0 M 0 [(0, .ref (z + t0)), (1, .int a1), (2, .int a2), (3, .int a3), (4, .int a4), (5, .int a5)] []
  refine am_aload_n F 0 dX7_begin_0 rfl rfl ?_
  refine am_iload_n F 1 dX7_begin_1 rfl rfl ?_
  refine pf_X7_9 F y0 dX7_begin_2 ?_
  refine am_aload_n F 0 dX7_begin_5 rfl rfl ?_
  refine am_iload_n F 2 dX7_begin_6 rfl rfl ?_
  refine pf_X7_15 F y0 dX7_begin_7 ?_
  refine am_aload_n F 0 dX7_begin_10 rfl rfl ?_
  refine am_iload_n F 3 dX7_begin_11 rfl rfl ?_
  refine pf_X7_18 F y0 dX7_begin_12 ?_
  refine am_aload_n F 0 dX7_begin_15 rfl rfl ?_
  refine am_iload F 4 dX7_begin_16 rfl ?_
  refine pf_X7_21 F y0 dX7_begin_18 ?_
  refine am_aload_n F 0 dX7_begin_21 rfl rfl ?_
  refine am_iload F 5 dX7_begin_22 rfl ?_
  refine pf_X7_24 F y0 dX7_begin_24 ?_
  refine am_aload_n F 0 dX7_begin_27 rfl rfl ?_
  refine am_iconst F (v := (-1 : Int32)) dX7_begin_28 (by decide) ?_
  refine pf_X7_27 F y0 dX7_begin_29 ?_
  refine am_aload_n F 0 dX7_begin_32 rfl rfl ?_
  refine am_iconst F (v := (0 : Int32)) dX7_begin_33 (by decide) ?_
  refine am_iconst F (v := (0 : Int32)) dX7_begin_34 (by decide) ?_
  refine am_iconst F (v := (-1 : Int32)) dX7_begin_35 (by decide) ?_
  obtain ⟨_, M2, h1, h⟩ := am_bE h
  refine am_callVv F [.int (0 : Int32), .int (0 : Int32), .int (-1 : Int32)] y0 (by decide) rfl cw_X7_30 (c_X7_become l D E z t0 y0 (0 : Int32) (0 : Int32) (-1 : Int32) (am_s (am_s (am_s (am_s (am_s (am_s M t0 0 a1) t0 1 a2) t0 2 a3) t0 3 a4) t0 4 a5) t0 8 (-1 : Int32)) M2 h1) yn_X7_become rfl ⟨Nat.le_of_ble_eq_true rfl, Nat.le_of_ble_eq_true rfl⟩ rfl rfl (Nat.le_of_ble_eq_true rfl) ⟨Nat.zero_le _, Nat.zero_le _⟩ dX7_begin_36 rfl ?_
  exact am_vret F hr h dX7_begin_39
/-! AisleScheduler$Task.copyFrom(LAisleScheduler$Task;)V -/
abbrev rm_X7_copyFrom : Room := { frames := 2, cells := 0, slots := 0, locals := 47 }
theorem yn_X7_copyFrom : am_yn yX7_copyFrom 1 := ⟨⟨by decide +kernel, by decide +kernel⟩, by decide +kernel⟩
def g_X7_copyFrom (t0 : Nat) (t1 : Nat) (M : am_M) : Option (Unit × am_M) := (am_b (g_X7_become t0 (am_g (am_s (am_s (am_s (am_s (am_s (am_s M t0 0 (am_g M t1 0)) t0 1 (am_g (am_s M t0 0 (am_g M t1 0)) t1 1)) t0 2 (am_g (am_s (am_s M t0 0 (am_g M t1 0)) t0 1 (am_g (am_s M t0 0 (am_g M t1 0)) t1 1)) t1 2)) t0 3 (am_g (am_s (am_s (am_s M t0 0 (am_g M t1 0)) t0 1 (am_g (am_s M t0 0 (am_g M t1 0)) t1 1)) t0 2 (am_g (am_s (am_s M t0 0 (am_g M t1 0)) t0 1 (am_g (am_s M t0 0 (am_g M t1 0)) t1 1)) t1 2)) t1 3)) t0 4 (am_g (am_s (am_s (am_s (am_s M t0 0 (am_g M t1 0)) t0 1 (am_g (am_s M t0 0 (am_g M t1 0)) t1 1)) t0 2 (am_g (am_s (am_s M t0 0 (am_g M t1 0)) t0 1 (am_g (am_s M t0 0 (am_g M t1 0)) t1 1)) t1 2)) t0 3 (am_g (am_s (am_s (am_s M t0 0 (am_g M t1 0)) t0 1 (am_g (am_s M t0 0 (am_g M t1 0)) t1 1)) t0 2 (am_g (am_s (am_s M t0 0 (am_g M t1 0)) t0 1 (am_g (am_s M t0 0 (am_g M t1 0)) t1 1)) t1 2)) t1 3)) t1 4)) t0 8 (am_g (am_s (am_s (am_s (am_s (am_s M t0 0 (am_g M t1 0)) t0 1 (am_g (am_s M t0 0 (am_g M t1 0)) t1 1)) t0 2 (am_g (am_s (am_s M t0 0 (am_g M t1 0)) t0 1 (am_g (am_s M t0 0 (am_g M t1 0)) t1 1)) t1 2)) t0 3 (am_g (am_s (am_s (am_s M t0 0 (am_g M t1 0)) t0 1 (am_g (am_s M t0 0 (am_g M t1 0)) t1 1)) t0 2 (am_g (am_s (am_s M t0 0 (am_g M t1 0)) t0 1 (am_g (am_s M t0 0 (am_g M t1 0)) t1 1)) t1 2)) t1 3)) t0 4 (am_g (am_s (am_s (am_s (am_s M t0 0 (am_g M t1 0)) t0 1 (am_g (am_s M t0 0 (am_g M t1 0)) t1 1)) t0 2 (am_g (am_s (am_s M t0 0 (am_g M t1 0)) t0 1 (am_g (am_s M t0 0 (am_g M t1 0)) t1 1)) t1 2)) t0 3 (am_g (am_s (am_s (am_s M t0 0 (am_g M t1 0)) t0 1 (am_g (am_s M t0 0 (am_g M t1 0)) t1 1)) t0 2 (am_g (am_s (am_s M t0 0 (am_g M t1 0)) t0 1 (am_g (am_s M t0 0 (am_g M t1 0)) t1 1)) t1 2)) t1 3)) t1 4)) t1 8)) t1 5) (am_g (am_s (am_s (am_s (am_s (am_s (am_s M t0 0 (am_g M t1 0)) t0 1 (am_g (am_s M t0 0 (am_g M t1 0)) t1 1)) t0 2 (am_g (am_s (am_s M t0 0 (am_g M t1 0)) t0 1 (am_g (am_s M t0 0 (am_g M t1 0)) t1 1)) t1 2)) t0 3 (am_g (am_s (am_s (am_s M t0 0 (am_g M t1 0)) t0 1 (am_g (am_s M t0 0 (am_g M t1 0)) t1 1)) t0 2 (am_g (am_s (am_s M t0 0 (am_g M t1 0)) t0 1 (am_g (am_s M t0 0 (am_g M t1 0)) t1 1)) t1 2)) t1 3)) t0 4 (am_g (am_s (am_s (am_s (am_s M t0 0 (am_g M t1 0)) t0 1 (am_g (am_s M t0 0 (am_g M t1 0)) t1 1)) t0 2 (am_g (am_s (am_s M t0 0 (am_g M t1 0)) t0 1 (am_g (am_s M t0 0 (am_g M t1 0)) t1 1)) t1 2)) t0 3 (am_g (am_s (am_s (am_s M t0 0 (am_g M t1 0)) t0 1 (am_g (am_s M t0 0 (am_g M t1 0)) t1 1)) t0 2 (am_g (am_s (am_s M t0 0 (am_g M t1 0)) t0 1 (am_g (am_s M t0 0 (am_g M t1 0)) t1 1)) t1 2)) t1 3)) t1 4)) t0 8 (am_g (am_s (am_s (am_s (am_s (am_s M t0 0 (am_g M t1 0)) t0 1 (am_g (am_s M t0 0 (am_g M t1 0)) t1 1)) t0 2 (am_g (am_s (am_s M t0 0 (am_g M t1 0)) t0 1 (am_g (am_s M t0 0 (am_g M t1 0)) t1 1)) t1 2)) t0 3 (am_g (am_s (am_s (am_s M t0 0 (am_g M t1 0)) t0 1 (am_g (am_s M t0 0 (am_g M t1 0)) t1 1)) t0 2 (am_g (am_s (am_s M t0 0 (am_g M t1 0)) t0 1 (am_g (am_s M t0 0 (am_g M t1 0)) t1 1)) t1 2)) t1 3)) t0 4 (am_g (am_s (am_s (am_s (am_s M t0 0 (am_g M t1 0)) t0 1 (am_g (am_s M t0 0 (am_g M t1 0)) t1 1)) t0 2 (am_g (am_s (am_s M t0 0 (am_g M t1 0)) t0 1 (am_g (am_s M t0 0 (am_g M t1 0)) t1 1)) t1 2)) t0 3 (am_g (am_s (am_s (am_s M t0 0 (am_g M t1 0)) t0 1 (am_g (am_s M t0 0 (am_g M t1 0)) t1 1)) t0 2 (am_g (am_s (am_s M t0 0 (am_g M t1 0)) t0 1 (am_g (am_s M t0 0 (am_g M t1 0)) t1 1)) t1 2)) t1 3)) t1 4)) t1 8)) t1 6) (am_g (am_s (am_s (am_s (am_s (am_s (am_s M t0 0 (am_g M t1 0)) t0 1 (am_g (am_s M t0 0 (am_g M t1 0)) t1 1)) t0 2 (am_g (am_s (am_s M t0 0 (am_g M t1 0)) t0 1 (am_g (am_s M t0 0 (am_g M t1 0)) t1 1)) t1 2)) t0 3 (am_g (am_s (am_s (am_s M t0 0 (am_g M t1 0)) t0 1 (am_g (am_s M t0 0 (am_g M t1 0)) t1 1)) t0 2 (am_g (am_s (am_s M t0 0 (am_g M t1 0)) t0 1 (am_g (am_s M t0 0 (am_g M t1 0)) t1 1)) t1 2)) t1 3)) t0 4 (am_g (am_s (am_s (am_s (am_s M t0 0 (am_g M t1 0)) t0 1 (am_g (am_s M t0 0 (am_g M t1 0)) t1 1)) t0 2 (am_g (am_s (am_s M t0 0 (am_g M t1 0)) t0 1 (am_g (am_s M t0 0 (am_g M t1 0)) t1 1)) t1 2)) t0 3 (am_g (am_s (am_s (am_s M t0 0 (am_g M t1 0)) t0 1 (am_g (am_s M t0 0 (am_g M t1 0)) t1 1)) t0 2 (am_g (am_s (am_s M t0 0 (am_g M t1 0)) t0 1 (am_g (am_s M t0 0 (am_g M t1 0)) t1 1)) t1 2)) t1 3)) t1 4)) t0 8 (am_g (am_s (am_s (am_s (am_s (am_s M t0 0 (am_g M t1 0)) t0 1 (am_g (am_s M t0 0 (am_g M t1 0)) t1 1)) t0 2 (am_g (am_s (am_s M t0 0 (am_g M t1 0)) t0 1 (am_g (am_s M t0 0 (am_g M t1 0)) t1 1)) t1 2)) t0 3 (am_g (am_s (am_s (am_s M t0 0 (am_g M t1 0)) t0 1 (am_g (am_s M t0 0 (am_g M t1 0)) t1 1)) t0 2 (am_g (am_s (am_s M t0 0 (am_g M t1 0)) t0 1 (am_g (am_s M t0 0 (am_g M t1 0)) t1 1)) t1 2)) t1 3)) t0 4 (am_g (am_s (am_s (am_s (am_s M t0 0 (am_g M t1 0)) t0 1 (am_g (am_s M t0 0 (am_g M t1 0)) t1 1)) t0 2 (am_g (am_s (am_s M t0 0 (am_g M t1 0)) t0 1 (am_g (am_s M t0 0 (am_g M t1 0)) t1 1)) t1 2)) t0 3 (am_g (am_s (am_s (am_s M t0 0 (am_g M t1 0)) t0 1 (am_g (am_s M t0 0 (am_g M t1 0)) t1 1)) t0 2 (am_g (am_s (am_s M t0 0 (am_g M t1 0)) t0 1 (am_g (am_s M t0 0 (am_g M t1 0)) t1 1)) t1 2)) t1 3)) t1 4)) t1 8)) t1 7) (am_s (am_s (am_s (am_s (am_s (am_s M t0 0 (am_g M t1 0)) t0 1 (am_g (am_s M t0 0 (am_g M t1 0)) t1 1)) t0 2 (am_g (am_s (am_s M t0 0 (am_g M t1 0)) t0 1 (am_g (am_s M t0 0 (am_g M t1 0)) t1 1)) t1 2)) t0 3 (am_g (am_s (am_s (am_s M t0 0 (am_g M t1 0)) t0 1 (am_g (am_s M t0 0 (am_g M t1 0)) t1 1)) t0 2 (am_g (am_s (am_s M t0 0 (am_g M t1 0)) t0 1 (am_g (am_s M t0 0 (am_g M t1 0)) t1 1)) t1 2)) t1 3)) t0 4 (am_g (am_s (am_s (am_s (am_s M t0 0 (am_g M t1 0)) t0 1 (am_g (am_s M t0 0 (am_g M t1 0)) t1 1)) t0 2 (am_g (am_s (am_s M t0 0 (am_g M t1 0)) t0 1 (am_g (am_s M t0 0 (am_g M t1 0)) t1 1)) t1 2)) t0 3 (am_g (am_s (am_s (am_s M t0 0 (am_g M t1 0)) t0 1 (am_g (am_s M t0 0 (am_g M t1 0)) t1 1)) t0 2 (am_g (am_s (am_s M t0 0 (am_g M t1 0)) t0 1 (am_g (am_s M t0 0 (am_g M t1 0)) t1 1)) t1 2)) t1 3)) t1 4)) t0 8 (am_g (am_s (am_s (am_s (am_s (am_s M t0 0 (am_g M t1 0)) t0 1 (am_g (am_s M t0 0 (am_g M t1 0)) t1 1)) t0 2 (am_g (am_s (am_s M t0 0 (am_g M t1 0)) t0 1 (am_g (am_s M t0 0 (am_g M t1 0)) t1 1)) t1 2)) t0 3 (am_g (am_s (am_s (am_s M t0 0 (am_g M t1 0)) t0 1 (am_g (am_s M t0 0 (am_g M t1 0)) t1 1)) t0 2 (am_g (am_s (am_s M t0 0 (am_g M t1 0)) t0 1 (am_g (am_s M t0 0 (am_g M t1 0)) t1 1)) t1 2)) t1 3)) t0 4 (am_g (am_s (am_s (am_s (am_s M t0 0 (am_g M t1 0)) t0 1 (am_g (am_s M t0 0 (am_g M t1 0)) t1 1)) t0 2 (am_g (am_s (am_s M t0 0 (am_g M t1 0)) t0 1 (am_g (am_s M t0 0 (am_g M t1 0)) t1 1)) t1 2)) t0 3 (am_g (am_s (am_s (am_s M t0 0 (am_g M t1 0)) t0 1 (am_g (am_s M t0 0 (am_g M t1 0)) t1 1)) t0 2 (am_g (am_s (am_s M t0 0 (am_g M t1 0)) t0 1 (am_g (am_s M t0 0 (am_g M t1 0)) t1 1)) t1 2)) t1 3)) t1 4)) t1 8))) (fun _ M2 => (some ((), M2))))
set_option maxHeartbeats 4000000 in
set_option maxRecDepth 100000 in
theorem c_X7_copyFrom (l : Launch) (D : va_G) (E : Nat → ClassId) (z : Nat) (t0 : Nat) (y0 : am_ly t0 = (7, 0)) (t1 : Nat) (y1 : am_ly t1 = (7, 0)) (M : am_M)  (M1 : am_M) (h : g_X7_copyFrom t0 t1 M = some ((), M1)) : am_Mv l yX7_copyFrom cX7_copyFrom 2 none rm_X7_copyFrom D E z [.ref (z + t0), .ref (z + t1)] M M1 := by
  unfold g_X7_copyFrom at h
  refine am_of (own := RX7) (by decide +kernel) rfl (by exact Nat.le_of_ble_eq_true rfl) ?_
  intro p e s m args below meth c F hr
  show am_W p l e rm_X7_copyFrom s m args below meth c _ 2 D E z 0 0 M 0 [(0, .ref (z + t0)), (1, .ref (z + t1))] []
  refine am_aload_n F 0 dX7_copyFrom_0 rfl rfl ?_
  refine am_aload_n F 1 dX7_copyFrom_1 rfl rfl ?_
  refine gf_X7_9 F y1 dX7_copyFrom_2 ?_
  refine pf_X7_9 F y0 dX7_copyFrom_5 ?_
  refine am_aload_n F 0 dX7_copyFrom_8 rfl rfl ?_
  refine am_aload_n F 1 dX7_copyFrom_9 rfl rfl ?_
  refine gf_X7_15 F y1 dX7_copyFrom_10 ?_
  refine pf_X7_15 F y0 dX7_copyFrom_13 ?_
  refine am_aload_n F 0 dX7_copyFrom_16 rfl rfl ?_
  refine am_aload_n F 1 dX7_copyFrom_17 rfl rfl ?_
  refine gf_X7_18 F y1 dX7_copyFrom_18 ?_
  refine pf_X7_18 F y0 dX7_copyFrom_21 ?_
  refine am_aload_n F 0 dX7_copyFrom_24 rfl rfl ?_
  refine am_aload_n F 1 dX7_copyFrom_25 rfl rfl ?_
  refine gf_X7_21 F y1 dX7_copyFrom_26 ?_
  refine pf_X7_21 F y0 dX7_copyFrom_29 ?_
  refine am_aload_n F 0 dX7_copyFrom_32 rfl rfl ?_
  refine am_aload_n F 1 dX7_copyFrom_33 rfl rfl ?_
  refine gf_X7_24 F y1 dX7_copyFrom_34 ?_
  refine pf_X7_24 F y0 dX7_copyFrom_37 ?_
  refine am_aload_n F 0 dX7_copyFrom_40 rfl rfl ?_
  refine am_aload_n F 1 dX7_copyFrom_41 rfl rfl ?_
  refine gf_X7_27 F y1 dX7_copyFrom_42 ?_
  refine pf_X7_27 F y0 dX7_copyFrom_45 ?_
  refine am_aload_n F 0 dX7_copyFrom_48 rfl rfl ?_
  refine am_aload_n F 1 dX7_copyFrom_49 rfl rfl ?_
  refine gf_X7_34 F y1 dX7_copyFrom_50 ?_
  refine am_aload_n F 1 dX7_copyFrom_53 rfl rfl ?_
  refine gf_X7_37 F y1 dX7_copyFrom_54 ?_
  refine am_aload_n F 1 dX7_copyFrom_57 rfl rfl ?_
  refine gf_X7_40 F y1 dX7_copyFrom_58 ?_
  obtain ⟨_, M2, h1, h⟩ := am_bE h
  refine am_callVv F [.int (am_g (am_s (am_s (am_s (am_s (am_s (am_s M t0 0 (am_g M t1 0)) t0 1 (am_g (am_s M t0 0 (am_g M t1 0)) t1 1)) t0 2 (am_g (am_s (am_s M t0 0 (am_g M t1 0)) t0 1 (am_g (am_s M t0 0 (am_g M t1 0)) t1 1)) t1 2)) t0 3 (am_g (am_s (am_s (am_s M t0 0 (am_g M t1 0)) t0 1 (am_g (am_s M t0 0 (am_g M t1 0)) t1 1)) t0 2 (am_g (am_s (am_s M t0 0 (am_g M t1 0)) t0 1 (am_g (am_s M t0 0 (am_g M t1 0)) t1 1)) t1 2)) t1 3)) t0 4 (am_g (am_s (am_s (am_s (am_s M t0 0 (am_g M t1 0)) t0 1 (am_g (am_s M t0 0 (am_g M t1 0)) t1 1)) t0 2 (am_g (am_s (am_s M t0 0 (am_g M t1 0)) t0 1 (am_g (am_s M t0 0 (am_g M t1 0)) t1 1)) t1 2)) t0 3 (am_g (am_s (am_s (am_s M t0 0 (am_g M t1 0)) t0 1 (am_g (am_s M t0 0 (am_g M t1 0)) t1 1)) t0 2 (am_g (am_s (am_s M t0 0 (am_g M t1 0)) t0 1 (am_g (am_s M t0 0 (am_g M t1 0)) t1 1)) t1 2)) t1 3)) t1 4)) t0 8 (am_g (am_s (am_s (am_s (am_s (am_s M t0 0 (am_g M t1 0)) t0 1 (am_g (am_s M t0 0 (am_g M t1 0)) t1 1)) t0 2 (am_g (am_s (am_s M t0 0 (am_g M t1 0)) t0 1 (am_g (am_s M t0 0 (am_g M t1 0)) t1 1)) t1 2)) t0 3 (am_g (am_s (am_s (am_s M t0 0 (am_g M t1 0)) t0 1 (am_g (am_s M t0 0 (am_g M t1 0)) t1 1)) t0 2 (am_g (am_s (am_s M t0 0 (am_g M t1 0)) t0 1 (am_g (am_s M t0 0 (am_g M t1 0)) t1 1)) t1 2)) t1 3)) t0 4 (am_g (am_s (am_s (am_s (am_s M t0 0 (am_g M t1 0)) t0 1 (am_g (am_s M t0 0 (am_g M t1 0)) t1 1)) t0 2 (am_g (am_s (am_s M t0 0 (am_g M t1 0)) t0 1 (am_g (am_s M t0 0 (am_g M t1 0)) t1 1)) t1 2)) t0 3 (am_g (am_s (am_s (am_s M t0 0 (am_g M t1 0)) t0 1 (am_g (am_s M t0 0 (am_g M t1 0)) t1 1)) t0 2 (am_g (am_s (am_s M t0 0 (am_g M t1 0)) t0 1 (am_g (am_s M t0 0 (am_g M t1 0)) t1 1)) t1 2)) t1 3)) t1 4)) t1 8)) t1 5), .int (am_g (am_s (am_s (am_s (am_s (am_s (am_s M t0 0 (am_g M t1 0)) t0 1 (am_g (am_s M t0 0 (am_g M t1 0)) t1 1)) t0 2 (am_g (am_s (am_s M t0 0 (am_g M t1 0)) t0 1 (am_g (am_s M t0 0 (am_g M t1 0)) t1 1)) t1 2)) t0 3 (am_g (am_s (am_s (am_s M t0 0 (am_g M t1 0)) t0 1 (am_g (am_s M t0 0 (am_g M t1 0)) t1 1)) t0 2 (am_g (am_s (am_s M t0 0 (am_g M t1 0)) t0 1 (am_g (am_s M t0 0 (am_g M t1 0)) t1 1)) t1 2)) t1 3)) t0 4 (am_g (am_s (am_s (am_s (am_s M t0 0 (am_g M t1 0)) t0 1 (am_g (am_s M t0 0 (am_g M t1 0)) t1 1)) t0 2 (am_g (am_s (am_s M t0 0 (am_g M t1 0)) t0 1 (am_g (am_s M t0 0 (am_g M t1 0)) t1 1)) t1 2)) t0 3 (am_g (am_s (am_s (am_s M t0 0 (am_g M t1 0)) t0 1 (am_g (am_s M t0 0 (am_g M t1 0)) t1 1)) t0 2 (am_g (am_s (am_s M t0 0 (am_g M t1 0)) t0 1 (am_g (am_s M t0 0 (am_g M t1 0)) t1 1)) t1 2)) t1 3)) t1 4)) t0 8 (am_g (am_s (am_s (am_s (am_s (am_s M t0 0 (am_g M t1 0)) t0 1 (am_g (am_s M t0 0 (am_g M t1 0)) t1 1)) t0 2 (am_g (am_s (am_s M t0 0 (am_g M t1 0)) t0 1 (am_g (am_s M t0 0 (am_g M t1 0)) t1 1)) t1 2)) t0 3 (am_g (am_s (am_s (am_s M t0 0 (am_g M t1 0)) t0 1 (am_g (am_s M t0 0 (am_g M t1 0)) t1 1)) t0 2 (am_g (am_s (am_s M t0 0 (am_g M t1 0)) t0 1 (am_g (am_s M t0 0 (am_g M t1 0)) t1 1)) t1 2)) t1 3)) t0 4 (am_g (am_s (am_s (am_s (am_s M t0 0 (am_g M t1 0)) t0 1 (am_g (am_s M t0 0 (am_g M t1 0)) t1 1)) t0 2 (am_g (am_s (am_s M t0 0 (am_g M t1 0)) t0 1 (am_g (am_s M t0 0 (am_g M t1 0)) t1 1)) t1 2)) t0 3 (am_g (am_s (am_s (am_s M t0 0 (am_g M t1 0)) t0 1 (am_g (am_s M t0 0 (am_g M t1 0)) t1 1)) t0 2 (am_g (am_s (am_s M t0 0 (am_g M t1 0)) t0 1 (am_g (am_s M t0 0 (am_g M t1 0)) t1 1)) t1 2)) t1 3)) t1 4)) t1 8)) t1 6), .int (am_g (am_s (am_s (am_s (am_s (am_s (am_s M t0 0 (am_g M t1 0)) t0 1 (am_g (am_s M t0 0 (am_g M t1 0)) t1 1)) t0 2 (am_g (am_s (am_s M t0 0 (am_g M t1 0)) t0 1 (am_g (am_s M t0 0 (am_g M t1 0)) t1 1)) t1 2)) t0 3 (am_g (am_s (am_s (am_s M t0 0 (am_g M t1 0)) t0 1 (am_g (am_s M t0 0 (am_g M t1 0)) t1 1)) t0 2 (am_g (am_s (am_s M t0 0 (am_g M t1 0)) t0 1 (am_g (am_s M t0 0 (am_g M t1 0)) t1 1)) t1 2)) t1 3)) t0 4 (am_g (am_s (am_s (am_s (am_s M t0 0 (am_g M t1 0)) t0 1 (am_g (am_s M t0 0 (am_g M t1 0)) t1 1)) t0 2 (am_g (am_s (am_s M t0 0 (am_g M t1 0)) t0 1 (am_g (am_s M t0 0 (am_g M t1 0)) t1 1)) t1 2)) t0 3 (am_g (am_s (am_s (am_s M t0 0 (am_g M t1 0)) t0 1 (am_g (am_s M t0 0 (am_g M t1 0)) t1 1)) t0 2 (am_g (am_s (am_s M t0 0 (am_g M t1 0)) t0 1 (am_g (am_s M t0 0 (am_g M t1 0)) t1 1)) t1 2)) t1 3)) t1 4)) t0 8 (am_g (am_s (am_s (am_s (am_s (am_s M t0 0 (am_g M t1 0)) t0 1 (am_g (am_s M t0 0 (am_g M t1 0)) t1 1)) t0 2 (am_g (am_s (am_s M t0 0 (am_g M t1 0)) t0 1 (am_g (am_s M t0 0 (am_g M t1 0)) t1 1)) t1 2)) t0 3 (am_g (am_s (am_s (am_s M t0 0 (am_g M t1 0)) t0 1 (am_g (am_s M t0 0 (am_g M t1 0)) t1 1)) t0 2 (am_g (am_s (am_s M t0 0 (am_g M t1 0)) t0 1 (am_g (am_s M t0 0 (am_g M t1 0)) t1 1)) t1 2)) t1 3)) t0 4 (am_g (am_s (am_s (am_s (am_s M t0 0 (am_g M t1 0)) t0 1 (am_g (am_s M t0 0 (am_g M t1 0)) t1 1)) t0 2 (am_g (am_s (am_s M t0 0 (am_g M t1 0)) t0 1 (am_g (am_s M t0 0 (am_g M t1 0)) t1 1)) t1 2)) t0 3 (am_g (am_s (am_s (am_s M t0 0 (am_g M t1 0)) t0 1 (am_g (am_s M t0 0 (am_g M t1 0)) t1 1)) t0 2 (am_g (am_s (am_s M t0 0 (am_g M t1 0)) t0 1 (am_g (am_s M t0 0 (am_g M t1 0)) t1 1)) t1 2)) t1 3)) t1 4)) t1 8)) t1 7)] y0 (by decide) rfl cw_X7_30 (c_X7_become l D E z t0 y0 (am_g (am_s (am_s (am_s (am_s (am_s (am_s M t0 0 (am_g M t1 0)) t0 1 (am_g (am_s M t0 0 (am_g M t1 0)) t1 1)) t0 2 (am_g (am_s (am_s M t0 0 (am_g M t1 0)) t0 1 (am_g (am_s M t0 0 (am_g M t1 0)) t1 1)) t1 2)) t0 3 (am_g (am_s (am_s (am_s M t0 0 (am_g M t1 0)) t0 1 (am_g (am_s M t0 0 (am_g M t1 0)) t1 1)) t0 2 (am_g (am_s (am_s M t0 0 (am_g M t1 0)) t0 1 (am_g (am_s M t0 0 (am_g M t1 0)) t1 1)) t1 2)) t1 3)) t0 4 (am_g (am_s (am_s (am_s (am_s M t0 0 (am_g M t1 0)) t0 1 (am_g (am_s M t0 0 (am_g M t1 0)) t1 1)) t0 2 (am_g (am_s (am_s M t0 0 (am_g M t1 0)) t0 1 (am_g (am_s M t0 0 (am_g M t1 0)) t1 1)) t1 2)) t0 3 (am_g (am_s (am_s (am_s M t0 0 (am_g M t1 0)) t0 1 (am_g (am_s M t0 0 (am_g M t1 0)) t1 1)) t0 2 (am_g (am_s (am_s M t0 0 (am_g M t1 0)) t0 1 (am_g (am_s M t0 0 (am_g M t1 0)) t1 1)) t1 2)) t1 3)) t1 4)) t0 8 (am_g (am_s (am_s (am_s (am_s (am_s M t0 0 (am_g M t1 0)) t0 1 (am_g (am_s M t0 0 (am_g M t1 0)) t1 1)) t0 2 (am_g (am_s (am_s M t0 0 (am_g M t1 0)) t0 1 (am_g (am_s M t0 0 (am_g M t1 0)) t1 1)) t1 2)) t0 3 (am_g (am_s (am_s (am_s M t0 0 (am_g M t1 0)) t0 1 (am_g (am_s M t0 0 (am_g M t1 0)) t1 1)) t0 2 (am_g (am_s (am_s M t0 0 (am_g M t1 0)) t0 1 (am_g (am_s M t0 0 (am_g M t1 0)) t1 1)) t1 2)) t1 3)) t0 4 (am_g (am_s (am_s (am_s (am_s M t0 0 (am_g M t1 0)) t0 1 (am_g (am_s M t0 0 (am_g M t1 0)) t1 1)) t0 2 (am_g (am_s (am_s M t0 0 (am_g M t1 0)) t0 1 (am_g (am_s M t0 0 (am_g M t1 0)) t1 1)) t1 2)) t0 3 (am_g (am_s (am_s (am_s M t0 0 (am_g M t1 0)) t0 1 (am_g (am_s M t0 0 (am_g M t1 0)) t1 1)) t0 2 (am_g (am_s (am_s M t0 0 (am_g M t1 0)) t0 1 (am_g (am_s M t0 0 (am_g M t1 0)) t1 1)) t1 2)) t1 3)) t1 4)) t1 8)) t1 5) (am_g (am_s (am_s (am_s (am_s (am_s (am_s M t0 0 (am_g M t1 0)) t0 1 (am_g (am_s M t0 0 (am_g M t1 0)) t1 1)) t0 2 (am_g (am_s (am_s M t0 0 (am_g M t1 0)) t0 1 (am_g (am_s M t0 0 (am_g M t1 0)) t1 1)) t1 2)) t0 3 (am_g (am_s (am_s (am_s M t0 0 (am_g M t1 0)) t0 1 (am_g (am_s M t0 0 (am_g M t1 0)) t1 1)) t0 2 (am_g (am_s (am_s M t0 0 (am_g M t1 0)) t0 1 (am_g (am_s M t0 0 (am_g M t1 0)) t1 1)) t1 2)) t1 3)) t0 4 (am_g (am_s (am_s (am_s (am_s M t0 0 (am_g M t1 0)) t0 1 (am_g (am_s M t0 0 (am_g M t1 0)) t1 1)) t0 2 (am_g (am_s (am_s M t0 0 (am_g M t1 0)) t0 1 (am_g (am_s M t0 0 (am_g M t1 0)) t1 1)) t1 2)) t0 3 (am_g (am_s (am_s (am_s M t0 0 (am_g M t1 0)) t0 1 (am_g (am_s M t0 0 (am_g M t1 0)) t1 1)) t0 2 (am_g (am_s (am_s M t0 0 (am_g M t1 0)) t0 1 (am_g (am_s M t0 0 (am_g M t1 0)) t1 1)) t1 2)) t1 3)) t1 4)) t0 8 (am_g (am_s (am_s (am_s (am_s (am_s M t0 0 (am_g M t1 0)) t0 1 (am_g (am_s M t0 0 (am_g M t1 0)) t1 1)) t0 2 (am_g (am_s (am_s M t0 0 (am_g M t1 0)) t0 1 (am_g (am_s M t0 0 (am_g M t1 0)) t1 1)) t1 2)) t0 3 (am_g (am_s (am_s (am_s M t0 0 (am_g M t1 0)) t0 1 (am_g (am_s M t0 0 (am_g M t1 0)) t1 1)) t0 2 (am_g (am_s (am_s M t0 0 (am_g M t1 0)) t0 1 (am_g (am_s M t0 0 (am_g M t1 0)) t1 1)) t1 2)) t1 3)) t0 4 (am_g (am_s (am_s (am_s (am_s M t0 0 (am_g M t1 0)) t0 1 (am_g (am_s M t0 0 (am_g M t1 0)) t1 1)) t0 2 (am_g (am_s (am_s M t0 0 (am_g M t1 0)) t0 1 (am_g (am_s M t0 0 (am_g M t1 0)) t1 1)) t1 2)) t0 3 (am_g (am_s (am_s (am_s M t0 0 (am_g M t1 0)) t0 1 (am_g (am_s M t0 0 (am_g M t1 0)) t1 1)) t0 2 (am_g (am_s (am_s M t0 0 (am_g M t1 0)) t0 1 (am_g (am_s M t0 0 (am_g M t1 0)) t1 1)) t1 2)) t1 3)) t1 4)) t1 8)) t1 6) (am_g (am_s (am_s (am_s (am_s (am_s (am_s M t0 0 (am_g M t1 0)) t0 1 (am_g (am_s M t0 0 (am_g M t1 0)) t1 1)) t0 2 (am_g (am_s (am_s M t0 0 (am_g M t1 0)) t0 1 (am_g (am_s M t0 0 (am_g M t1 0)) t1 1)) t1 2)) t0 3 (am_g (am_s (am_s (am_s M t0 0 (am_g M t1 0)) t0 1 (am_g (am_s M t0 0 (am_g M t1 0)) t1 1)) t0 2 (am_g (am_s (am_s M t0 0 (am_g M t1 0)) t0 1 (am_g (am_s M t0 0 (am_g M t1 0)) t1 1)) t1 2)) t1 3)) t0 4 (am_g (am_s (am_s (am_s (am_s M t0 0 (am_g M t1 0)) t0 1 (am_g (am_s M t0 0 (am_g M t1 0)) t1 1)) t0 2 (am_g (am_s (am_s M t0 0 (am_g M t1 0)) t0 1 (am_g (am_s M t0 0 (am_g M t1 0)) t1 1)) t1 2)) t0 3 (am_g (am_s (am_s (am_s M t0 0 (am_g M t1 0)) t0 1 (am_g (am_s M t0 0 (am_g M t1 0)) t1 1)) t0 2 (am_g (am_s (am_s M t0 0 (am_g M t1 0)) t0 1 (am_g (am_s M t0 0 (am_g M t1 0)) t1 1)) t1 2)) t1 3)) t1 4)) t0 8 (am_g (am_s (am_s (am_s (am_s (am_s M t0 0 (am_g M t1 0)) t0 1 (am_g (am_s M t0 0 (am_g M t1 0)) t1 1)) t0 2 (am_g (am_s (am_s M t0 0 (am_g M t1 0)) t0 1 (am_g (am_s M t0 0 (am_g M t1 0)) t1 1)) t1 2)) t0 3 (am_g (am_s (am_s (am_s M t0 0 (am_g M t1 0)) t0 1 (am_g (am_s M t0 0 (am_g M t1 0)) t1 1)) t0 2 (am_g (am_s (am_s M t0 0 (am_g M t1 0)) t0 1 (am_g (am_s M t0 0 (am_g M t1 0)) t1 1)) t1 2)) t1 3)) t0 4 (am_g (am_s (am_s (am_s (am_s M t0 0 (am_g M t1 0)) t0 1 (am_g (am_s M t0 0 (am_g M t1 0)) t1 1)) t0 2 (am_g (am_s (am_s M t0 0 (am_g M t1 0)) t0 1 (am_g (am_s M t0 0 (am_g M t1 0)) t1 1)) t1 2)) t0 3 (am_g (am_s (am_s (am_s M t0 0 (am_g M t1 0)) t0 1 (am_g (am_s M t0 0 (am_g M t1 0)) t1 1)) t0 2 (am_g (am_s (am_s M t0 0 (am_g M t1 0)) t0 1 (am_g (am_s M t0 0 (am_g M t1 0)) t1 1)) t1 2)) t1 3)) t1 4)) t1 8)) t1 7) (am_s (am_s (am_s (am_s (am_s (am_s M t0 0 (am_g M t1 0)) t0 1 (am_g (am_s M t0 0 (am_g M t1 0)) t1 1)) t0 2 (am_g (am_s (am_s M t0 0 (am_g M t1 0)) t0 1 (am_g (am_s M t0 0 (am_g M t1 0)) t1 1)) t1 2)) t0 3 (am_g (am_s (am_s (am_s M t0 0 (am_g M t1 0)) t0 1 (am_g (am_s M t0 0 (am_g M t1 0)) t1 1)) t0 2 (am_g (am_s (am_s M t0 0 (am_g M t1 0)) t0 1 (am_g (am_s M t0 0 (am_g M t1 0)) t1 1)) t1 2)) t1 3)) t0 4 (am_g (am_s (am_s (am_s (am_s M t0 0 (am_g M t1 0)) t0 1 (am_g (am_s M t0 0 (am_g M t1 0)) t1 1)) t0 2 (am_g (am_s (am_s M t0 0 (am_g M t1 0)) t0 1 (am_g (am_s M t0 0 (am_g M t1 0)) t1 1)) t1 2)) t0 3 (am_g (am_s (am_s (am_s M t0 0 (am_g M t1 0)) t0 1 (am_g (am_s M t0 0 (am_g M t1 0)) t1 1)) t0 2 (am_g (am_s (am_s M t0 0 (am_g M t1 0)) t0 1 (am_g (am_s M t0 0 (am_g M t1 0)) t1 1)) t1 2)) t1 3)) t1 4)) t0 8 (am_g (am_s (am_s (am_s (am_s (am_s M t0 0 (am_g M t1 0)) t0 1 (am_g (am_s M t0 0 (am_g M t1 0)) t1 1)) t0 2 (am_g (am_s (am_s M t0 0 (am_g M t1 0)) t0 1 (am_g (am_s M t0 0 (am_g M t1 0)) t1 1)) t1 2)) t0 3 (am_g (am_s (am_s (am_s M t0 0 (am_g M t1 0)) t0 1 (am_g (am_s M t0 0 (am_g M t1 0)) t1 1)) t0 2 (am_g (am_s (am_s M t0 0 (am_g M t1 0)) t0 1 (am_g (am_s M t0 0 (am_g M t1 0)) t1 1)) t1 2)) t1 3)) t0 4 (am_g (am_s (am_s (am_s (am_s M t0 0 (am_g M t1 0)) t0 1 (am_g (am_s M t0 0 (am_g M t1 0)) t1 1)) t0 2 (am_g (am_s (am_s M t0 0 (am_g M t1 0)) t0 1 (am_g (am_s M t0 0 (am_g M t1 0)) t1 1)) t1 2)) t0 3 (am_g (am_s (am_s (am_s M t0 0 (am_g M t1 0)) t0 1 (am_g (am_s M t0 0 (am_g M t1 0)) t1 1)) t0 2 (am_g (am_s (am_s M t0 0 (am_g M t1 0)) t0 1 (am_g (am_s M t0 0 (am_g M t1 0)) t1 1)) t1 2)) t1 3)) t1 4)) t1 8)) M2 h1) yn_X7_become rfl ⟨Nat.le_of_ble_eq_true rfl, Nat.le_of_ble_eq_true rfl⟩ rfl rfl (Nat.le_of_ble_eq_true rfl) ⟨Nat.zero_le _, Nat.zero_le _⟩ dX7_copyFrom_61 rfl ?_
  exact am_vret F hr h dX7_copyFrom_64
/-! AisleScheduler$World.empty()V -/
abbrev rm_X8_empty : Room := { frames := 3, cells := 0, slots := 0, locals := 68 }
theorem yn_X8_empty : am_yn yX8_empty 0 := ⟨⟨by decide +kernel, by decide +kernel⟩, by decide +kernel⟩
def g_X8_empty (t0 : Nat) (M : am_M) : Option (Unit × am_M) := (am_b (g_X1_empty (t0 + 1) M) (fun _ M2 => (am_b (g_X9_fill (t0 + 6) 40 (0 : Int32) M2) (fun _ M4 => (some ((), (am_s (am_s (am_s M4 t0 2 (0 : Int32)) t0 3 (0 : Int32)) t0 4 (0 : Int32))))))))
set_option maxHeartbeats 4000000 in
set_option maxRecDepth 100000 in
theorem c_X8_empty (l : Launch) (D : va_G) (E : Nat → ClassId) (z : Nat) (t0 : Nat) (y0 : am_ly t0 = (8, 0)) (M : am_M)  (M1 : am_M) (h : g_X8_empty t0 M = some ((), M1)) : am_Mv l yX8_empty cX8_empty 1 none rm_X8_empty D E z [.ref (z + t0)] M M1 := by
  unfold g_X8_empty at h
  refine am_of (own := RX8) (by decide +kernel) rfl (by exact Nat.le_of_ble_eq_true rfl) ?_
  intro p e s m args below meth c F hr
  show am_W p l e rm_X8_empty s m args below meth c _ 1 D E z 0 0 M 0 [(0, .ref (z + t0))] []
  refine am_aload_n F 0 dX8_empty_0 rfl rfl ?_
  refine gf_X8_12 F y0 dX8_empty_1 ?_
  obtain ⟨_, M2, h1, h⟩ := am_bE h
  refine am_callVv F [] (lyf_8_floor y0) (by decide) rfl cw_X8_44 (c_X1_empty l D E z (t0 + 1) (lyf_8_floor y0) M M2 h1) yn_X1_empty rfl ⟨Nat.le_of_ble_eq_true rfl, Nat.le_of_ble_eq_true rfl⟩ rfl rfl (Nat.le_of_ble_eq_true rfl) ⟨Nat.zero_le _, Nat.zero_le _⟩ dX8_empty_4 rfl ?_
  refine am_aload_n F 0 dX8_empty_7 rfl rfl ?_
  refine gf_X8_18 F y0 dX8_empty_8 ?_
  refine am_iconst F (v := (0 : Int32)) dX8_empty_11 (by decide) ?_
  obtain ⟨_, M4, h3, h⟩ := am_bE h
  refine am_callSNv F [.ref (z + (t0 + 6)), .int (0 : Int32)] cw_X8_47  (c_X9_fill l D E z (t0 + 6) 40 (lyf_8_visitCounts y0) (0 : Int32) M2 M4 h3) yn_X9_fill rfl ⟨Nat.le_of_ble_eq_true rfl, Nat.le_of_ble_eq_true rfl⟩ rfl rfl (Nat.le_of_ble_eq_true rfl) ⟨Nat.zero_le _, Nat.zero_le _⟩ dX8_empty_12 rfl ?_
  refine am_aload_n F 0 dX8_empty_15 rfl rfl ?_
  refine am_iconst F (v := (0 : Int32)) dX8_empty_16 (by decide) ?_
  refine pf_X8_51 F y0 dX8_empty_17 ?_
  refine am_aload_n F 0 dX8_empty_20 rfl rfl ?_
  refine am_iconst F (v := (0 : Int32)) dX8_empty_21 (by decide) ?_
  refine pf_X8_55 F y0 dX8_empty_22 ?_
  refine am_aload_n F 0 dX8_empty_25 rfl rfl ?_
  refine am_iconst F (v := (0 : Int32)) dX8_empty_26 (by decide) ?_
  refine pf_X8_58 F y0 dX8_empty_27 ?_
  exact am_vret F hr h dX8_empty_30
/-! AisleScheduler$World.copyFrom(LAisleScheduler$World;)V -/
abbrev rm_X8_copyFrom : Room := { frames := 4, cells := 0, slots := 0, locals := 88 }
theorem yn_X8_copyFrom : am_yn yX8_copyFrom 1 := ⟨⟨by decide +kernel, by decide +kernel⟩, by decide +kernel⟩
def g_X8_copyFrom_L48 (t0 : Nat) (t1 : Nat) : Nat → Int32 → am_M → Option ((Unit) × am_M)
  | 0, _, _ => none
  | n + 1, a2, M => (if (am_g M t0 2) ≤ a2 then (some ((), M)) else (am_b (g_X8_robotOf t0 a2 M) (fun v7 M6 => (am_b (g_X8_robotOf t1 a2 M6) (fun v10 M9 => (am_b (g_X4_copyFrom v7 v10 M9) (fun _ M12 => (g_X8_copyFrom_L48 t0 t1 n (a2 + (1 : Int32)) M12))))))))
set_option maxHeartbeats 4000000 in
set_option maxRecDepth 100000 in
theorem cl_X8_copyFrom_L48 {l : Launch} {p : Program} {e : Env} {s : State} {m : MethodId} {args : Array Value} {below : List Frame} {meth : Method} {c : Code} {Q : State → Prop} {D : va_G} {E : Nat → ClassId} {z : Nat} (F : am_F p s m args meth c cX8_copyFrom 3 RX8 D E z) (t0 : Nat) (y0 : am_ly t0 = (8, 0)) (t1 : Nat) (y1 : am_ly t1 = (8, 0)) : ∀ (n : Nat) (a2 : Int32) (M : am_M) (x : Unit) (M1 : am_M), g_X8_copyFrom_L48 t0 t1 n a2 M = some (x, M1) → (am_W p l e rm_X8_copyFrom s m args below meth c Q 3 D E z 0 0 M1 75 [(0, .ref (z + t0)), (1, .ref (z + t1))] []) → am_W p l e rm_X8_copyFrom s m args below meth c Q 3 D E z 0 0 M 48 [(0, .ref (z + t0)), (1, .ref (z + t1)), (2, .int a2)] [] := by
  intro n
  induction n with
  | zero => intro a2 M x M1 h K; cases h
  | succ n ih =>
    intro a2 M x M1 h K
    rw [g_X8_copyFrom_L48] at h
    refine am_iload_n F 2 dX8_copyFrom_48 rfl rfl ?_
    refine am_aload_n F 0 dX8_copyFrom_49 rfl rfl ?_
    refine gf_X8_51 F y0 dX8_copyFrom_50 ?_
    refine am_icmp_ge F (tgt := 75) dX8_copyFrom_53 (by decide) (fun c13 => ?_) (fun c13 => ?_)
    · have h := (if_pos c13).symm.trans h
      cases h
      exact am_sub (lv' := [(0, .ref (z + t0)), (1, .ref (z + t1))]) [0, 1] rfl (K)
    · have h := (if_neg c13).symm.trans h
      refine am_aload_n F 0 dX8_copyFrom_56 rfl rfl ?_
      refine am_iload_n F 2 dX8_copyFrom_57 rfl rfl ?_
      obtain ⟨v7, M6, h5, h⟩ := am_bE h
      refine am_callVr F [.int a2] y0 (by decide) rfl cw_X8_69 (c_X8_robotOf l D E z t0 y0 a2 M v7 M6 h5) yn_X8_robotOf rfl ⟨Nat.le_of_ble_eq_true rfl, Nat.le_of_ble_eq_true rfl⟩ rfl rfl (Nat.le_of_ble_eq_true rfl) ⟨Nat.zero_le _, Nat.zero_le _⟩ dX8_copyFrom_58 rfl ?_
      refine am_aload_n F 1 dX8_copyFrom_61 rfl rfl ?_
      refine am_iload_n F 2 dX8_copyFrom_62 rfl rfl ?_
      obtain ⟨v10, M9, h8, h⟩ := am_bE h
      refine am_callVr F [.int a2] y1 (by decide) rfl cw_X8_69 (c_X8_robotOf l D E z t1 y1 a2 M6 v10 M9 h8) yn_X8_robotOf rfl ⟨Nat.le_of_ble_eq_true rfl, Nat.le_of_ble_eq_true rfl⟩ rfl rfl (Nat.le_of_ble_eq_true rfl) ⟨Nat.zero_le _, Nat.zero_le _⟩ dX8_copyFrom_63 rfl ?_
      obtain ⟨_, M12, h11, h⟩ := am_bE h
      refine am_callVv F [.ref (z + v10)] (q_X8_robotOf t0 y0 a2 M v7 M6 h5) (by decide) rfl cw_X8_73 (c_X4_copyFrom l D E z v7 (q_X8_robotOf t0 y0 a2 M v7 M6 h5) v10 (q_X8_robotOf t1 y1 a2 M6 v10 M9 h8) M9 M12 h11) yn_X4_copyFrom rfl ⟨Nat.le_of_ble_eq_true rfl, Nat.le_of_ble_eq_true rfl⟩ rfl rfl (Nat.le_of_ble_eq_true rfl) ⟨Nat.zero_le _, Nat.zero_le _⟩ dX8_copyFrom_66 rfl ?_
      refine am_iinc F [(2, .int (a2 + (1 : Int32))), (0, .ref (z + t0)), (1, .ref (z + t1))] 2 dX8_copyFrom_69 (by decide) rfl rfl rfl ?_
      refine am_goto F (tgt := 48) dX8_copyFrom_72 (by decide) ?_
      exact am_sub (lv' := [(0, .ref (z + t0)), (1, .ref (z + t1)), (2, .int (a2 + (1 : Int32)))]) [1, 2, 0] rfl (ih (a2 + (1 : Int32)) M12 _ _ h K)
def g_X8_copyFrom_L77 (t0 : Nat) (t1 : Nat) : Nat → Int32 → am_M → Option ((Unit) × am_M)
  | 0, _, _ => none
  | n + 1, a2, M => (if (am_g M t0 3) ≤ a2 then (some ((), M)) else (am_b (g_X8_taskOf t0 a2 M) (fun v19 M18 => (am_b (g_X8_taskOf t1 a2 M18) (fun v22 M21 => (am_b (g_X7_copyFrom v19 v22 M21) (fun _ M24 => (g_X8_copyFrom_L77 t0 t1 n (a2 + (1 : Int32)) M24))))))))
set_option maxHeartbeats 4000000 in
set_option maxRecDepth 100000 in
theorem cl_X8_copyFrom_L77 {l : Launch} {p : Program} {e : Env} {s : State} {m : MethodId} {args : Array Value} {below : List Frame} {meth : Method} {c : Code} {Q : State → Prop} {D : va_G} {E : Nat → ClassId} {z : Nat} (F : am_F p s m args meth c cX8_copyFrom 3 RX8 D E z) (t0 : Nat) (y0 : am_ly t0 = (8, 0)) (t1 : Nat) (y1 : am_ly t1 = (8, 0)) : ∀ (n : Nat) (a2 : Int32) (M : am_M) (x : Unit) (M1 : am_M), g_X8_copyFrom_L77 t0 t1 n a2 M = some (x, M1) → (am_W p l e rm_X8_copyFrom s m args below meth c Q 3 D E z 0 0 M1 104 [] []) → am_W p l e rm_X8_copyFrom s m args below meth c Q 3 D E z 0 0 M 77 [(0, .ref (z + t0)), (1, .ref (z + t1)), (2, .int a2)] [] := by
  intro n
  induction n with
  | zero => intro a2 M x M1 h K; cases h
  | succ n ih =>
    intro a2 M x M1 h K
    rw [g_X8_copyFrom_L77] at h
    refine am_iload_n F 2 dX8_copyFrom_77 rfl rfl ?_
    refine am_aload_n F 0 dX8_copyFrom_78 rfl rfl ?_
    refine gf_X8_55 F y0 dX8_copyFrom_79 ?_
    refine am_icmp_ge F (tgt := 104) dX8_copyFrom_82 (by decide) (fun c25 => ?_) (fun c25 => ?_)
    · have h := (if_pos c25).symm.trans h
      cases h
      exact am_sub (lv' := []) [] rfl (K)
    · have h := (if_neg c25).symm.trans h
      refine am_aload_n F 0 dX8_copyFrom_85 rfl rfl ?_
      refine am_iload_n F 2 dX8_copyFrom_86 rfl rfl ?_
      obtain ⟨v19, M18, h17, h⟩ := am_bE h
      refine am_callVr F [.int a2] y0 (by decide) rfl cw_X8_76 (c_X8_taskOf l D E z t0 y0 a2 M v19 M18 h17) yn_X8_taskOf rfl ⟨Nat.le_of_ble_eq_true rfl, Nat.le_of_ble_eq_true rfl⟩ rfl rfl (Nat.le_of_ble_eq_true rfl) ⟨Nat.zero_le _, Nat.zero_le _⟩ dX8_copyFrom_87 rfl ?_
      refine am_aload_n F 1 dX8_copyFrom_90 rfl rfl ?_
      refine am_iload_n F 2 dX8_copyFrom_91 rfl rfl ?_
      obtain ⟨v22, M21, h20, h⟩ := am_bE h
      refine am_callVr F [.int a2] y1 (by decide) rfl cw_X8_76 (c_X8_taskOf l D E z t1 y1 a2 M18 v22 M21 h20) yn_X8_taskOf rfl ⟨Nat.le_of_ble_eq_true rfl, Nat.le_of_ble_eq_true rfl⟩ rfl rfl (Nat.le_of_ble_eq_true rfl) ⟨Nat.zero_le _, Nat.zero_le _⟩ dX8_copyFrom_92 rfl ?_
      obtain ⟨_, M24, h23, h⟩ := am_bE h
      refine am_callVv F [.ref (z + v22)] (q_X8_taskOf t0 y0 a2 M v19 M18 h17) (by decide) rfl cw_X8_80 (c_X7_copyFrom l D E z v19 (q_X8_taskOf t0 y0 a2 M v19 M18 h17) v22 (q_X8_taskOf t1 y1 a2 M18 v22 M21 h20) M21 M24 h23) yn_X7_copyFrom rfl ⟨Nat.le_of_ble_eq_true rfl, Nat.le_of_ble_eq_true rfl⟩ rfl rfl (Nat.le_of_ble_eq_true rfl) ⟨Nat.zero_le _, Nat.zero_le _⟩ dX8_copyFrom_95 rfl ?_
      refine am_iinc F [(2, .int (a2 + (1 : Int32))), (0, .ref (z + t0)), (1, .ref (z + t1))] 2 dX8_copyFrom_98 (by decide) rfl rfl rfl ?_
      refine am_goto F (tgt := 77) dX8_copyFrom_101 (by decide) ?_
      exact am_sub (lv' := [(0, .ref (z + t0)), (1, .ref (z + t1)), (2, .int (a2 + (1 : Int32)))]) [1, 2, 0] rfl (ih (a2 + (1 : Int32)) M24 _ _ h K)
def g_X8_copyFrom (t0 : Nat) (t1 : Nat) (M : am_M) : Option (Unit × am_M) := (am_b (g_X1_copyFrom (t0 + 1) (t1 + 1) M) (fun _ M2 => (am_b (g_X9_copyRow (t1 + 6) 40 (t0 + 6) 40 M2) (fun _ M4 => (am_b (g_X8_copyFrom_L48 t0 t1 am_fu (0 : Int32) (am_s (am_s (am_s M4 t0 2 (am_g M4 t1 2)) t0 3 (am_g (am_s M4 t0 2 (am_g M4 t1 2)) t1 3)) t0 4 (am_g (am_s (am_s M4 t0 2 (am_g M4 t1 2)) t0 3 (am_g (am_s M4 t0 2 (am_g M4 t1 2)) t1 3)) t1 4))) (fun x14 M15 => (am_b (g_X8_copyFrom_L77 t0 t1 am_fu (0 : Int32) M15) (fun x26 M27 => (some ((), M27))))))))))
set_option maxHeartbeats 4000000 in
set_option maxRecDepth 100000 in
theorem c_X8_copyFrom (l : Launch) (D : va_G) (E : Nat → ClassId) (z : Nat) (t0 : Nat) (y0 : am_ly t0 = (8, 0)) (t1 : Nat) (y1 : am_ly t1 = (8, 0)) (M : am_M)  (M1 : am_M) (h : g_X8_copyFrom t0 t1 M = some ((), M1)) : am_Mv l yX8_copyFrom cX8_copyFrom 3 none rm_X8_copyFrom D E z [.ref (z + t0), .ref (z + t1)] M M1 := by
  unfold g_X8_copyFrom at h
  refine am_of (own := RX8) (by decide +kernel) rfl (by exact Nat.le_of_ble_eq_true rfl) ?_
  intro p e s m args below meth c F hr
  show am_W p l e rm_X8_copyFrom s m args below meth c _ 3 D E z 0 0 M 0 [(0, .ref (z + t0)), (1, .ref (z + t1))] []
  refine am_aload_n F 0 dX8_copyFrom_0 rfl rfl ?_
  refine gf_X8_12 F y0 dX8_copyFrom_1 ?_
  refine am_aload_n F 1 dX8_copyFrom_4 rfl rfl ?_
  refine gf_X8_12 F y1 dX8_copyFrom_5 ?_
  obtain ⟨_, M2, h1, h⟩ := am_bE h
  refine am_callVv F [.ref (z + (t1 + 1))] (lyf_8_floor y0) (by decide) rfl cw_X8_61 (c_X1_copyFrom l D E z (t0 + 1) (lyf_8_floor y0) (t1 + 1) (lyf_8_floor y1) M M2 h1) yn_X1_copyFrom rfl ⟨Nat.le_of_ble_eq_true rfl, Nat.le_of_ble_eq_true rfl⟩ rfl rfl (Nat.le_of_ble_eq_true rfl) ⟨Nat.zero_le _, Nat.zero_le _⟩ dX8_copyFrom_8 rfl ?_
  refine am_aload_n F 1 dX8_copyFrom_11 rfl rfl ?_
  refine gf_X8_18 F y1 dX8_copyFrom_12 ?_
  refine am_aload_n F 0 dX8_copyFrom_15 rfl rfl ?_
  refine gf_X8_18 F y0 dX8_copyFrom_16 ?_
  obtain ⟨_, M4, h3, h⟩ := am_bE h
  refine am_callSNv F [.ref (z + (t1 + 6)), .ref (z + (t0 + 6))] cw_X8_65  (c_X9_copyRow l D E z (t1 + 6) 40 (lyf_8_visitCounts y1) (t0 + 6) 40 (lyf_8_visitCounts y0) M2 M4 h3) yn_X9_copyRow rfl ⟨Nat.le_of_ble_eq_true rfl, Nat.le_of_ble_eq_true rfl⟩ rfl rfl (Nat.le_of_ble_eq_true rfl) ⟨Nat.zero_le _, Nat.zero_le _⟩ dX8_copyFrom_19 rfl ?_
  refine am_aload_n F 0 dX8_copyFrom_22 rfl rfl ?_
  refine am_aload_n F 1 dX8_copyFrom_23 rfl rfl ?_
  refine gf_X8_51 F y1 dX8_copyFrom_24 ?_
  refine pf_X8_51 F y0 dX8_copyFrom_27 ?_
  refine am_aload_n F 0 dX8_copyFrom_30 rfl rfl ?_
  refine am_aload_n F 1 dX8_copyFrom_31 rfl rfl ?_
  refine gf_X8_55 F y1 dX8_copyFrom_32 ?_
  refine pf_X8_55 F y0 dX8_copyFrom_35 ?_
  refine am_aload_n F 0 dX8_copyFrom_38 rfl rfl ?_
  refine am_aload_n F 1 dX8_copyFrom_39 rfl rfl ?_
  refine gf_X8_58 F y1 dX8_copyFrom_40 ?_
  refine pf_X8_58 F y0 dX8_copyFrom_43 ?_
  refine am_iconst F (v := (0 : Int32)) dX8_copyFrom_46 (by decide) ?_
  refine am_istore_n F [(2, .int (0 : Int32)), (0, .ref (z + t0)), (1, .ref (z + t1))] dX8_copyFrom_47 rfl (by decide) rfl ?_
  obtain ⟨x14, M15, h16, h⟩ := am_bE h
  refine am_sub (lv' := [(0, .ref (z + t0)), (1, .ref (z + t1)), (2, .int (0 : Int32))]) [1, 2, 0] rfl (cl_X8_copyFrom_L48 F t0 y0 t1 y1 am_fu (0 : Int32) (am_s (am_s (am_s M4 t0 2 (am_g M4 t1 2)) t0 3 (am_g (am_s M4 t0 2 (am_g M4 t1 2)) t1 3)) t0 4 (am_g (am_s (am_s M4 t0 2 (am_g M4 t1 2)) t0 3 (am_g (am_s M4 t0 2 (am_g M4 t1 2)) t1 3)) t1 4)) x14 M15 h16 ?_)
  refine am_iconst F (v := (0 : Int32)) dX8_copyFrom_75 (by decide) ?_
  refine am_istore_n F [(2, .int (0 : Int32)), (0, .ref (z + t0)), (1, .ref (z + t1))] dX8_copyFrom_76 rfl (by decide) rfl ?_
  obtain ⟨x26, M27, h28, h⟩ := am_bE h
  refine am_sub (lv' := [(0, .ref (z + t0)), (1, .ref (z + t1)), (2, .int (0 : Int32))]) [1, 2, 0] rfl (cl_X8_copyFrom_L77 F t0 y0 t1 y1 am_fu (0 : Int32) M15 x26 M27 h28 ?_)
  exact am_vret F hr h dX8_copyFrom_104
/-! AisleScheduler$World.occupant(II)I -/
abbrev rm_X8_occupant : Room := { frames := 3, cells := 0, slots := 0, locals := 66 }
theorem yn_X8_occupant : am_yn yX8_occupant 2 := ⟨⟨by decide +kernel, by decide +kernel⟩, by decide +kernel⟩
def g_X8_occupant_L2 (t0 : Nat) (a1 : Int32) (a2 : Int32) : Nat → Int32 → am_M → Option ((Nat × Int32) × am_M)
  | 0, _, _ => none
  | n + 1, a3, M => (if (am_g M t0 2) ≤ a3 then (some ((34, a3), M)) else (am_b (g_X8_robotOf t0 a3 M) (fun v3 M2 => (am_b (g_X2_placeAt (v3 + 1) a2 M2) (fun v6 M5 => (if v6 = a1 then (some ((26, a3), M5)) else (g_X8_occupant_L2 t0 a1 a2 n (a3 + (1 : Int32)) M5)))))))
set_option maxHeartbeats 4000000 in
set_option maxRecDepth 100000 in
theorem cl_X8_occupant_L2 {l : Launch} {p : Program} {e : Env} {s : State} {m : MethodId} {args : Array Value} {below : List Frame} {meth : Method} {c : Code} {Q : State → Prop} {D : va_G} {E : Nat → ClassId} {z : Nat} (F : am_F p s m args meth c cX8_occupant 4 RX8 D E z) (t0 : Nat) (y0 : am_ly t0 = (8, 0)) (a1 : Int32) (a2 : Int32) : ∀ (n : Nat) (a3 : Int32) (M : am_M) (x : Nat × Int32) (M1 : am_M), g_X8_occupant_L2 t0 a1 a2 n a3 M = some (x, M1) → ((x.1 = 26 → am_W p l e rm_X8_occupant s m args below meth c Q 4 D E z 0 0 M1 26 [(3, .int x.2)] []) ∧ (x.1 = 34 → am_W p l e rm_X8_occupant s m args below meth c Q 4 D E z 0 0 M1 34 [] [])) → am_W p l e rm_X8_occupant s m args below meth c Q 4 D E z 0 0 M 2 [(0, .ref (z + t0)), (1, .int a1), (2, .int a2), (3, .int a3)] [] := by
  intro n
  induction n with
  | zero => intro a3 M x M1 h K; cases h
  | succ n ih =>
    intro a3 M x M1 h K
    rw [g_X8_occupant_L2] at h
    refine am_iload_n F 3 dX8_occupant_2 rfl rfl ?_
    refine am_aload_n F 0 dX8_occupant_3 rfl rfl ?_
    refine gf_X8_51 F y0 dX8_occupant_4 ?_
    refine am_icmp_ge F (tgt := 34) dX8_occupant_7 (by decide) (fun c8 => ?_) (fun c8 => ?_)
    · have h := (if_pos c8).symm.trans h
      cases h
      exact am_sub (lv' := []) [] rfl (K.2 rfl)
    · have h := (if_neg c8).symm.trans h
      refine am_aload_n F 0 dX8_occupant_10 rfl rfl ?_
      refine am_iload_n F 3 dX8_occupant_11 rfl rfl ?_
      obtain ⟨v3, M2, h1, h⟩ := am_bE h
      refine am_callVr F [.int a3] y0 (by decide) rfl cw_X8_69 (c_X8_robotOf l D E z t0 y0 a3 M v3 M2 h1) yn_X8_robotOf rfl ⟨Nat.le_of_ble_eq_true rfl, Nat.le_of_ble_eq_true rfl⟩ rfl rfl (Nat.le_of_ble_eq_true rfl) ⟨Nat.zero_le _, Nat.zero_le _⟩ dX8_occupant_12 rfl ?_
      refine gf_X8_83 F (q_X8_robotOf t0 y0 a3 M v3 M2 h1) dX8_occupant_15 ?_
      refine am_iload_n F 2 dX8_occupant_18 rfl rfl ?_
      obtain ⟨v6, M5, h4, h⟩ := am_bE h
      refine am_callVi F [.int a2] (lyf_4_plan (q_X8_robotOf t0 y0 a3 M v3 M2 h1)) (by decide) rfl cw_X8_93 (c_X2_placeAt l D E z (v3 + 1) (lyf_4_plan (q_X8_robotOf t0 y0 a3 M v3 M2 h1)) a2 M2 v6 M5 h4) yn_X2_placeAt rfl ⟨Nat.le_of_ble_eq_true rfl, Nat.le_of_ble_eq_true rfl⟩ rfl rfl (Nat.le_of_ble_eq_true rfl) ⟨Nat.zero_le _, Nat.zero_le _⟩ dX8_occupant_19 rfl ?_
      refine am_iload_n F 1 dX8_occupant_22 rfl rfl ?_
      refine am_icmp_ne F (tgt := 28) dX8_occupant_23 (by decide) (fun c7 => ?_) (fun c7 => ?_)
      · have h := (if_neg c7).symm.trans h
        refine am_iinc F [(3, .int (a3 + (1 : Int32))), (0, .ref (z + t0)), (1, .int a1), (2, .int a2)] 3 dX8_occupant_28 (by decide) rfl rfl rfl ?_
        refine am_goto F (tgt := 2) dX8_occupant_31 (by decide) ?_
        exact am_sub (lv' := [(0, .ref (z + t0)), (1, .int a1), (2, .int a2), (3, .int (a3 + (1 : Int32)))]) [1, 2, 3, 0] rfl (ih (a3 + (1 : Int32)) M5 _ _ h K)
      · have h := (if_pos c7).symm.trans h
        cases h
        exact am_sub (lv' := [(3, .int a3)]) [3] rfl (K.1 rfl)
def g_X8_occupant (t0 : Nat) (a1 : Int32) (a2 : Int32) (M : am_M) : Option (Int32 × am_M) := (am_b (g_X8_occupant_L2 t0 a1 a2 am_fu (0 : Int32) M) (fun x9 M10 => (if x9.1 = 26 then (some (x9.2, M10)) else (some ((-1 : Int32), M10)))))
set_option maxHeartbeats 4000000 in
set_option maxRecDepth 100000 in
theorem c_X8_occupant (l : Launch) (D : va_G) (E : Nat → ClassId) (z : Nat) (t0 : Nat) (y0 : am_ly t0 = (8, 0)) (a1 : Int32) (a2 : Int32) (M : am_M) (r0 : Int32) (M1 : am_M) (h : g_X8_occupant t0 a1 a2 M = some (r0, M1)) : am_Mi l yX8_occupant cX8_occupant 4 (some .int) rm_X8_occupant D E z [.ref (z + t0), .int a1, .int a2] M r0 M1 := by
  unfold g_X8_occupant at h
  refine am_of (own := RX8) (by decide +kernel) rfl (by exact Nat.le_of_ble_eq_true rfl) ?_
  intro p e s m args below meth c F hr
  show am_W p l e rm_X8_occupant s m args below meth c _ 4 D E z 0 0 M 0 [(0, .ref (z + t0)), (1, .int a1), (2, .int a2)] []
  refine am_iconst F (v := (0 : Int32)) dX8_occupant_0 (by decide) ?_
  refine am_istore_n F [(3, .int (0 : Int32)), (0, .ref (z + t0)), (1, .int a1), (2, .int a2)] dX8_occupant_1 rfl (by decide) rfl ?_
  obtain ⟨x9, M10, h11, h⟩ := am_bE h
  refine am_sub (lv' := [(0, .ref (z + t0)), (1, .int a1), (2, .int a2), (3, .int (0 : Int32))]) [1, 2, 3, 0] rfl (cl_X8_occupant_L2 F t0 y0 a1 a2 am_fu (0 : Int32) M x9 M10 h11 ⟨fun c12 => ?_, fun c12 => ?_⟩)
  · have h := (if_pos c12).symm.trans h
    refine am_iload_n F 0 dX8_occupant_26 rfl rfl ?_
    exact am_iret F hr h dX8_occupant_27
  · have h := (if_neg (by rw [c12]; decide)).symm.trans h
    refine am_iconst F (v := (-1 : Int32)) dX8_occupant_34 (by decide) ?_
    exact am_iret F hr h dX8_occupant_35
/-! AisleScheduler$World.isMet(II)Z -/
abbrev rm_X8_isMet : Room := { frames := 3, cells := 0, slots := 0, locals := 66 }
theorem yn_X8_isMet : am_yn yX8_isMet 2 := ⟨⟨by decide +kernel, by decide +kernel⟩, by decide +kernel⟩
def g_X8_isMet_L23 (t0 : Nat) (a1 : Int32) (a2 : Int32) (a3 : Int32) (t4 : Nat) : Nat → Int32 → am_M → Option ((Nat) × am_M)
  | 0, _, _ => none
  | n + 1, a5, M => (if a3 = a2 then (some (59, M)) else (if (30 : Int32) < a5 then (some (59, M)) else (am_b (g_X2_placeAt t4 ((am_g M t0 4) + a5) M) (fun v6 M5 => (if v6 = a1 then (some (51, M5)) else (g_X8_isMet_L23 t0 a1 a2 a3 t4 n (a5 + (1 : Int32)) M5))))))
set_option maxHeartbeats 4000000 in
set_option maxRecDepth 100000 in
theorem cl_X8_isMet_L23 {l : Launch} {p : Program} {e : Env} {s : State} {m : MethodId} {args : Array Value} {below : List Frame} {meth : Method} {c : Code} {Q : State → Prop} {D : va_G} {E : Nat → ClassId} {z : Nat} (F : am_F p s m args meth c cX8_isMet 6 RX8 D E z) (t0 : Nat) (y0 : am_ly t0 = (8, 0)) (a1 : Int32) (a2 : Int32) (a3 : Int32) (t4 : Nat) (y4 : am_ly t4 = (2, 0)) : ∀ (n : Nat) (a5 : Int32) (M : am_M) (x : Nat) (M1 : am_M), g_X8_isMet_L23 t0 a1 a2 a3 t4 n a5 M = some (x, M1) → ((x = 51 → am_W p l e rm_X8_isMet s m args below meth c Q 6 D E z 0 0 M1 51 [] []) ∧ (x = 59 → am_W p l e rm_X8_isMet s m args below meth c Q 6 D E z 0 0 M1 59 [(0, .ref (z + t0)), (1, .int a1), (2, .int a2), (3, .int a3)] [])) → am_W p l e rm_X8_isMet s m args below meth c Q 6 D E z 0 0 M 23 [(0, .ref (z + t0)), (1, .int a1), (2, .int a2), (3, .int a3), (4, .ref (z + t4)), (5, .int a5)] [] := by
  intro n
  induction n with
  | zero => intro a5 M x M1 h K; cases h
  | succ n ih =>
    intro a5 M x M1 h K
    rw [g_X8_isMet_L23] at h
    refine am_iload_n F 3 dX8_isMet_23 rfl rfl ?_
    refine am_iload_n F 2 dX8_isMet_24 rfl rfl ?_
    refine am_icmp_eq F (tgt := 59) dX8_isMet_25 (by decide) (fun c9 => ?_) (fun c9 => ?_)
    · have h := (if_pos c9).symm.trans h
      cases h
      exact am_sub (lv' := [(0, .ref (z + t0)), (1, .int a1), (2, .int a2), (3, .int a3)]) [0, 1, 2, 3] rfl (K.2 rfl)
    · have h := (if_neg c9).symm.trans h
      refine am_iload F 5 dX8_isMet_28 rfl ?_
      refine am_bipush F (v := (30 : Int32)) dX8_isMet_30 (by decide) ?_
      refine am_icmp_gt F (tgt := 59) dX8_isMet_32 (by decide) (fun c8 => ?_) (fun c8 => ?_)
      · have h := (if_pos c8).symm.trans h
        cases h
        exact am_sub (lv' := [(0, .ref (z + t0)), (1, .int a1), (2, .int a2), (3, .int a3)]) [0, 1, 2, 3] rfl (K.2 rfl)
      · have h := (if_neg c8).symm.trans h
        refine am_aload F 4 dX8_isMet_35 rfl ?_
        refine am_aload_n F 0 dX8_isMet_37 rfl rfl ?_
        refine gf_X8_58 F y0 dX8_isMet_38 ?_
        refine am_iload F 5 dX8_isMet_41 rfl ?_
        refine am_iadd F dX8_isMet_43 ?_
        obtain ⟨v6, M5, h4, h⟩ := am_bE h
        refine am_callVi F [.int ((am_g M t0 4) + a5)] y4 (by decide) rfl cw_X8_93 (c_X2_placeAt l D E z t4 y4 ((am_g M t0 4) + a5) M v6 M5 h4) yn_X2_placeAt rfl ⟨Nat.le_of_ble_eq_true rfl, Nat.le_of_ble_eq_true rfl⟩ rfl rfl (Nat.le_of_ble_eq_true rfl) ⟨Nat.zero_le _, Nat.zero_le _⟩ dX8_isMet_44 rfl ?_
        refine am_iload_n F 1 dX8_isMet_47 rfl rfl ?_
        refine am_icmp_ne F (tgt := 53) dX8_isMet_48 (by decide) (fun c7 => ?_) (fun c7 => ?_)
        · have h := (if_neg c7).symm.trans h
          refine am_iinc F [(5, .int (a5 + (1 : Int32))), (0, .ref (z + t0)), (1, .int a1), (2, .int a2), (3, .int a3), (4, .ref (z + t4))] 5 dX8_isMet_53 (by decide) rfl rfl rfl ?_
          refine am_goto F (tgt := 23) dX8_isMet_56 (by decide) ?_
          exact am_sub (lv' := [(0, .ref (z + t0)), (1, .int a1), (2, .int a2), (3, .int a3), (4, .ref (z + t4)), (5, .int (a5 + (1 : Int32)))]) [1, 2, 3, 4, 5, 0] rfl (ih (a5 + (1 : Int32)) M5 _ _ h K)
        · have h := (if_pos c7).symm.trans h
          cases h
          exact am_sub (lv' := []) [] rfl (K.1 rfl)
def g_X8_isMet_L2 (t0 : Nat) (a1 : Int32) (a2 : Int32) : Nat → Int32 → am_M → Option ((Nat) × am_M)
  | 0, _, _ => none
  | n + 1, a3, M => (if (am_g M t0 2) ≤ a3 then (some (65, M)) else (am_b (g_X8_robotOf t0 a3 M) (fun v3 M2 => (am_b (g_X8_isMet_L23 t0 a1 a2 a3 (v3 + 1) am_fu (0 : Int32) M2) (fun x10 M11 => (if x10 = 51 then (some (51, M11)) else (g_X8_isMet_L2 t0 a1 a2 n (a3 + (1 : Int32)) M11)))))))
set_option maxHeartbeats 4000000 in
set_option maxRecDepth 100000 in
theorem cl_X8_isMet_L2 {l : Launch} {p : Program} {e : Env} {s : State} {m : MethodId} {args : Array Value} {below : List Frame} {meth : Method} {c : Code} {Q : State → Prop} {D : va_G} {E : Nat → ClassId} {z : Nat} (F : am_F p s m args meth c cX8_isMet 6 RX8 D E z) (t0 : Nat) (y0 : am_ly t0 = (8, 0)) (a1 : Int32) (a2 : Int32) : ∀ (n : Nat) (a3 : Int32) (M : am_M) (x : Nat) (M1 : am_M), g_X8_isMet_L2 t0 a1 a2 n a3 M = some (x, M1) → ((x = 51 → am_W p l e rm_X8_isMet s m args below meth c Q 6 D E z 0 0 M1 51 [] []) ∧ (x = 65 → am_W p l e rm_X8_isMet s m args below meth c Q 6 D E z 0 0 M1 65 [] [])) → am_W p l e rm_X8_isMet s m args below meth c Q 6 D E z 0 0 M 2 [(0, .ref (z + t0)), (1, .int a1), (2, .int a2), (3, .int a3)] [] := by
  intro n
  induction n with
  | zero => intro a3 M x M1 h K; cases h
  | succ n ih =>
    intro a3 M x M1 h K
    rw [g_X8_isMet_L2] at h
    refine am_iload_n F 3 dX8_isMet_2 rfl rfl ?_
    refine am_aload_n F 0 dX8_isMet_3 rfl rfl ?_
    refine gf_X8_51 F y0 dX8_isMet_4 ?_
    refine am_icmp_ge F (tgt := 65) dX8_isMet_7 (by decide) (fun c14 => ?_) (fun c14 => ?_)
    · have h := (if_pos c14).symm.trans h
      cases h
      exact am_sub (lv' := []) [] rfl (K.2 rfl)
    · have h := (if_neg c14).symm.trans h
      refine am_aload_n F 0 dX8_isMet_10 rfl rfl ?_
      refine am_iload_n F 3 dX8_isMet_11 rfl rfl ?_
      obtain ⟨v3, M2, h1, h⟩ := am_bE h
      refine am_callVr F [.int a3] y0 (by decide) rfl cw_X8_69 (c_X8_robotOf l D E z t0 y0 a3 M v3 M2 h1) yn_X8_robotOf rfl ⟨Nat.le_of_ble_eq_true rfl, Nat.le_of_ble_eq_true rfl⟩ rfl rfl (Nat.le_of_ble_eq_true rfl) ⟨Nat.zero_le _, Nat.zero_le _⟩ dX8_isMet_12 rfl ?_
      refine gf_X8_83 F (q_X8_robotOf t0 y0 a3 M v3 M2 h1) dX8_isMet_15 ?_
      refine am_astore F [(4, .ref (z + (v3 + 1))), (0, .ref (z + t0)), (1, .int a1), (2, .int a2), (3, .int a3)] dX8_isMet_18 (by decide) rfl ?_
      refine am_iconst F (v := (0 : Int32)) dX8_isMet_20 (by decide) ?_
      refine am_istore F [(5, .int (0 : Int32)), (4, .ref (z + (v3 + 1))), (0, .ref (z + t0)), (1, .int a1), (2, .int a2), (3, .int a3)] dX8_isMet_21 (by decide) rfl ?_
      obtain ⟨x10, M11, h12, h⟩ := am_bE h
      refine am_sub (lv' := [(0, .ref (z + t0)), (1, .int a1), (2, .int a2), (3, .int a3), (4, .ref (z + (v3 + 1))), (5, .int (0 : Int32))]) [2, 3, 4, 5, 1, 0] rfl (cl_X8_isMet_L23 F t0 y0 a1 a2 a3 (v3 + 1) (lyf_4_plan (q_X8_robotOf t0 y0 a3 M v3 M2 h1)) am_fu (0 : Int32) M2 x10 M11 h12 ⟨fun c13 => ?_, fun c13 => ?_⟩)
      · have h := (if_pos c13).symm.trans h
        cases h
        exact am_sub (lv' := []) [] rfl (K.1 rfl)
      · have h := (if_neg (by rw [c13]; decide)).symm.trans h
        refine am_iinc F [(3, .int (a3 + (1 : Int32))), (0, .ref (z + t0)), (1, .int a1), (2, .int a2)] 3 dX8_isMet_59 (by decide) rfl rfl rfl ?_
        refine am_goto F (tgt := 2) dX8_isMet_62 (by decide) ?_
        exact am_sub (lv' := [(0, .ref (z + t0)), (1, .int a1), (2, .int a2), (3, .int (a3 + (1 : Int32)))]) [1, 2, 3, 0] rfl (ih (a3 + (1 : Int32)) M11 _ _ h K)
def g_X8_isMet (t0 : Nat) (a1 : Int32) (a2 : Int32) (M : am_M) : Option (Int32 × am_M) := (am_b (g_X8_isMet_L2 t0 a1 a2 am_fu (0 : Int32) M) (fun x15 M16 => (if x15 = 51 then (some ((1 : Int32), M16)) else (some ((0 : Int32), M16)))))
set_option maxHeartbeats 4000000 in
set_option maxRecDepth 100000 in
theorem c_X8_isMet (l : Launch) (D : va_G) (E : Nat → ClassId) (z : Nat) (t0 : Nat) (y0 : am_ly t0 = (8, 0)) (a1 : Int32) (a2 : Int32) (M : am_M) (r0 : Int32) (M1 : am_M) (h : g_X8_isMet t0 a1 a2 M = some (r0, M1)) : am_Mi l yX8_isMet cX8_isMet 6 (some .boolean) rm_X8_isMet D E z [.ref (z + t0), .int a1, .int a2] M r0 M1 := by
  unfold g_X8_isMet at h
  refine am_of (own := RX8) (by decide +kernel) rfl (by exact Nat.le_of_ble_eq_true rfl) ?_
  intro p e s m args below meth c F hr
  show am_W p l e rm_X8_isMet s m args below meth c _ 6 D E z 0 0 M 0 [(0, .ref (z + t0)), (1, .int a1), (2, .int a2)] []
  refine am_iconst F (v := (0 : Int32)) dX8_isMet_0 (by decide) ?_
  refine am_istore_n F [(3, .int (0 : Int32)), (0, .ref (z + t0)), (1, .int a1), (2, .int a2)] dX8_isMet_1 rfl (by decide) rfl ?_
  obtain ⟨x15, M16, h17, h⟩ := am_bE h
  refine am_sub (lv' := [(0, .ref (z + t0)), (1, .int a1), (2, .int a2), (3, .int (0 : Int32))]) [1, 2, 3, 0] rfl (cl_X8_isMet_L2 F t0 y0 a1 a2 am_fu (0 : Int32) M x15 M16 h17 ⟨fun c18 => ?_, fun c18 => ?_⟩)
  · have h := (if_pos c18).symm.trans h
    refine am_iconst F (v := (1 : Int32)) dX8_isMet_51 (by decide) ?_
    exact am_zret F hr (by decide) h dX8_isMet_52
  · have h := (if_neg (by rw [c18]; decide)).symm.trans h
    refine am_iconst F (v := (0 : Int32)) dX8_isMet_65 (by decide) ?_
    exact am_zret F hr (by decide) h dX8_isMet_66
/-! AisleScheduler$World.makeKind(II)I -/
abbrev rm_X8_makeKind : Room := { frames := 4, cells := 0, slots := 0, locals := 91 }
theorem yn_X8_makeKind : am_yn yX8_makeKind 2 := ⟨⟨by decide +kernel, by decide +kernel⟩, by decide +kernel⟩
def g_X8_makeKind (t0 : Nat) (a1 : Int32) (a2 : Int32) (M : am_M) : Option (Int32 × am_M) := (am_b (g_X9_isCell a1 M) (fun v3 M2 => (if v3 = (0 : Int32) then (some ((1 : Int32), M2)) else (if a2 < (0 : Int32) then (some ((2 : Int32), M2)) else (if a2 ≤ (2 : Int32) then (if a2 = (1 : Int32) then (am_b (g_X1_isLiftEnd (t0 + 1) a1 M2) (fun v8 M7 => (if v8 = (0 : Int32) then (am_b (g_X8_isMet t0 a1 (-1 : Int32) M7) (fun v11 M10 => (if v11 = (0 : Int32) then (am_b (g_X9_put ((t0 + 1) + 1) 40 a1 a2 M10) (fun _ M13 => (some ((0 : Int32), M13)))) else (some ((3 : Int32), M10))))) else (some ((3 : Int32), M7))))) else (am_b (g_X9_put ((t0 + 1) + 1) 40 a1 a2 M2) (fun _ M5 => (some ((0 : Int32), M5))))) else (some ((2 : Int32), M2)))))))
set_option maxHeartbeats 4000000 in
set_option maxRecDepth 100000 in
theorem c_X8_makeKind (l : Launch) (D : va_G) (E : Nat → ClassId) (z : Nat) (t0 : Nat) (y0 : am_ly t0 = (8, 0)) (a1 : Int32) (a2 : Int32) (M : am_M) (r0 : Int32) (M1 : am_M) (h : g_X8_makeKind t0 a1 a2 M = some (r0, M1)) : am_Mi l yX8_makeKind cX8_makeKind 3 (some .int) rm_X8_makeKind D E z [.ref (z + t0), .int a1, .int a2] M r0 M1 := by
  unfold g_X8_makeKind at h
  refine am_of (own := RX8) (by decide +kernel) rfl (by exact Nat.le_of_ble_eq_true rfl) ?_
  intro p e s m args below meth c F hr
  show am_W p l e rm_X8_makeKind s m args below meth c _ 3 D E z 0 0 M 0 [(0, .ref (z + t0)), (1, .int a1), (2, .int a2)] []
  refine am_iload_n F 1 dX8_makeKind_0 rfl rfl ?_
  obtain ⟨v3, M2, h1, h⟩ := am_bE h
  refine am_callSNi F [.int a1] cw_X8_96  (c_X9_isCell l D E z a1 M v3 M2 h1) yn_X9_isCell rfl ⟨Nat.le_of_ble_eq_true rfl, Nat.le_of_ble_eq_true rfl⟩ rfl rfl (Nat.le_of_ble_eq_true rfl) ⟨Nat.zero_le _, Nat.zero_le _⟩ dX8_makeKind_1 rfl ?_
  refine am_if_ne F (tgt := 9) dX8_makeKind_4 (by decide) (fun c19 => ?_) (fun c19 => ?_)
  · have h := (if_neg c19).symm.trans h
    refine am_iload_n F 2 dX8_makeKind_9 rfl rfl ?_
    refine am_if_lt F (tgt := 18) dX8_makeKind_10 (by decide) (fun c18 => ?_) (fun c18 => ?_)
    · have h := (if_pos c18).symm.trans h
      refine am_iconst F (v := (2 : Int32)) dX8_makeKind_18 (by decide) ?_
      exact am_iret F hr h dX8_makeKind_19
    · have h := (if_neg c18).symm.trans h
      refine am_iload_n F 2 dX8_makeKind_13 rfl rfl ?_
      refine am_iconst F (v := (2 : Int32)) dX8_makeKind_14 (by decide) ?_
      refine am_icmp_le F (tgt := 20) dX8_makeKind_15 (by decide) (fun c17 => ?_) (fun c17 => ?_)
      · have h := (if_pos c17).symm.trans h
        refine am_iload_n F 2 dX8_makeKind_20 rfl rfl ?_
        refine am_iconst F (v := (1 : Int32)) dX8_makeKind_21 (by decide) ?_
        refine am_icmp_ne F (tgt := 47) dX8_makeKind_22 (by decide) (fun c16 => ?_) (fun c16 => ?_)
        · have h := (if_neg c16).symm.trans h
          refine am_aload_n F 0 dX8_makeKind_47 rfl rfl ?_
          refine gf_X8_12 F y0 dX8_makeKind_48 ?_
          refine gf_X8_107 F (lyf_8_floor y0) dX8_makeKind_51 ?_
          refine am_iload_n F 1 dX8_makeKind_54 rfl rfl ?_
          refine am_iload_n F 2 dX8_makeKind_55 rfl rfl ?_
          obtain ⟨_, M5, h4, h⟩ := am_bE h
          refine am_callSNv F [.ref (z + ((t0 + 1) + 1)), .int a1, .int a2] cw_X8_110  (c_X9_put l D E z ((t0 + 1) + 1) 40 (lyf_1_kinds (lyf_8_floor y0)) a1 a2 M2 M5 h4) yn_X9_put rfl ⟨Nat.le_of_ble_eq_true rfl, Nat.le_of_ble_eq_true rfl⟩ rfl rfl (Nat.le_of_ble_eq_true rfl) ⟨Nat.zero_le _, Nat.zero_le _⟩ dX8_makeKind_56 rfl ?_
          refine am_iconst F (v := (0 : Int32)) dX8_makeKind_59 (by decide) ?_
          exact am_iret F hr h dX8_makeKind_60
        · have h := (if_pos c16).symm.trans h
          refine am_aload_n F 0 dX8_makeKind_25 rfl rfl ?_
          refine gf_X8_12 F y0 dX8_makeKind_26 ?_
          refine am_iload_n F 1 dX8_makeKind_29 rfl rfl ?_
          obtain ⟨v8, M7, h6, h⟩ := am_bE h
          refine am_callVi F [.int a1] (lyf_8_floor y0) (by decide) rfl cw_X8_100 (c_X1_isLiftEnd l D E z (t0 + 1) (lyf_8_floor y0) a1 M2 v8 M7 h6) yn_X1_isLiftEnd rfl ⟨Nat.le_of_ble_eq_true rfl, Nat.le_of_ble_eq_true rfl⟩ rfl rfl (Nat.le_of_ble_eq_true rfl) ⟨Nat.zero_le _, Nat.zero_le _⟩ dX8_makeKind_30 rfl ?_
          refine am_if_ne F (tgt := 45) dX8_makeKind_33 (by decide) (fun c15 => ?_) (fun c15 => ?_)
          · have h := (if_neg c15).symm.trans h
            refine am_iconst F (v := (3 : Int32)) dX8_makeKind_45 (by decide) ?_
            exact am_iret F hr h dX8_makeKind_46
          · have h := (if_pos c15).symm.trans h
            refine am_aload_n F 0 dX8_makeKind_36 rfl rfl ?_
            refine am_iload_n F 1 dX8_makeKind_37 rfl rfl ?_
            refine am_iconst F (v := (-1 : Int32)) dX8_makeKind_38 (by decide) ?_
            obtain ⟨v11, M10, h9, h⟩ := am_bE h
            refine am_callVi F [.int a1, .int (-1 : Int32)] y0 (by decide) rfl cw_X8_103 (c_X8_isMet l D E z t0 y0 a1 (-1 : Int32) M7 v11 M10 h9) yn_X8_isMet rfl ⟨Nat.le_of_ble_eq_true rfl, Nat.le_of_ble_eq_true rfl⟩ rfl rfl (Nat.le_of_ble_eq_true rfl) ⟨Nat.zero_le _, Nat.zero_le _⟩ dX8_makeKind_39 rfl ?_
            refine am_if_eq F (tgt := 47) dX8_makeKind_42 (by decide) (fun c14 => ?_) (fun c14 => ?_)
            · have h := (if_pos c14).symm.trans h
              refine am_aload_n F 0 dX8_makeKind_47 rfl rfl ?_
              refine gf_X8_12 F y0 dX8_makeKind_48 ?_
              refine gf_X8_107 F (lyf_8_floor y0) dX8_makeKind_51 ?_
              refine am_iload_n F 1 dX8_makeKind_54 rfl rfl ?_
              refine am_iload_n F 2 dX8_makeKind_55 rfl rfl ?_
              obtain ⟨_, M13, h12, h⟩ := am_bE h
              refine am_callSNv F [.ref (z + ((t0 + 1) + 1)), .int a1, .int a2] cw_X8_110  (c_X9_put l D E z ((t0 + 1) + 1) 40 (lyf_1_kinds (lyf_8_floor y0)) a1 a2 M10 M13 h12) yn_X9_put rfl ⟨Nat.le_of_ble_eq_true rfl, Nat.le_of_ble_eq_true rfl⟩ rfl rfl (Nat.le_of_ble_eq_true rfl) ⟨Nat.zero_le _, Nat.zero_le _⟩ dX8_makeKind_56 rfl ?_
              refine am_iconst F (v := (0 : Int32)) dX8_makeKind_59 (by decide) ?_
              exact am_iret F hr h dX8_makeKind_60
            · have h := (if_neg c14).symm.trans h
              refine am_iconst F (v := (3 : Int32)) dX8_makeKind_45 (by decide) ?_
              exact am_iret F hr h dX8_makeKind_46
      · have h := (if_neg c17).symm.trans h
        refine am_iconst F (v := (2 : Int32)) dX8_makeKind_18 (by decide) ?_
        exact am_iret F hr h dX8_makeKind_19
  · have h := (if_pos c19).symm.trans h
    refine am_iconst F (v := (1 : Int32)) dX8_makeKind_7 (by decide) ?_
    exact am_iret F hr h dX8_makeKind_8
/-! AisleScheduler$World.makeLift(II)I -/
abbrev rm_X8_makeLift : Room := { frames := 3, cells := 0, slots := 0, locals := 68 }
theorem yn_X8_makeLift : am_yn yX8_makeLift 2 := ⟨⟨by decide +kernel, by decide +kernel⟩, by decide +kernel⟩
def g_X8_makeLift (t0 : Nat) (a1 : Int32) (a2 : Int32) (M : am_M) : Option (Int32 × am_M) := (am_b (g_X9_isCell a1 M) (fun v3 M2 => (if v3 = (0 : Int32) then (some ((1 : Int32), M2)) else (am_b (g_X9_isCell a2 M2) (fun v6 M5 => (if v6 = (0 : Int32) then (some ((1 : Int32), M5)) else (if a1 = a2 then (some ((2 : Int32), M5)) else (am_b (g_X1_isWall (t0 + 1) a1 M5) (fun v9 M8 => (if v9 = (0 : Int32) then (am_b (g_X1_isWall (t0 + 1) a2 M8) (fun v12 M11 => (if v12 = (0 : Int32) then (am_b (g_X1_isLiftEnd (t0 + 1) a1 M11) (fun v15 M14 => (if v15 = (0 : Int32) then (am_b (g_X1_isLiftEnd (t0 + 1) a2 M14) (fun v18 M17 => (if v18 = (0 : Int32) then (if (am_g M17 (t0 + 1) 3) < (2 : Int32) then (am_b (g_X1_addLiftBetween (t0 + 1) a1 a2 M17) (fun _ M20 => (some ((0 : Int32), M20)))) else (some ((3 : Int32), M17))) else (some ((2 : Int32), M17))))) else (some ((2 : Int32), M14))))) else (some ((2 : Int32), M11))))) else (some ((2 : Int32), M8))))))))))))
set_option maxHeartbeats 4000000 in
set_option maxRecDepth 100000 in
theorem c_X8_makeLift (l : Launch) (D : va_G) (E : Nat → ClassId) (z : Nat) (t0 : Nat) (y0 : am_ly t0 = (8, 0)) (a1 : Int32) (a2 : Int32) (M : am_M) (r0 : Int32) (M1 : am_M) (h : g_X8_makeLift t0 a1 a2 M = some (r0, M1)) : am_Mi l yX8_makeLift cX8_makeLift 3 (some .int) rm_X8_makeLift D E z [.ref (z + t0), .int a1, .int a2] M r0 M1 := by
  unfold g_X8_makeLift at h
  refine am_of (own := RX8) (by decide +kernel) rfl (by exact Nat.le_of_ble_eq_true rfl) ?_
  intro p e s m args below meth c F hr
  show am_W p l e rm_X8_makeLift s m args below meth c _ 3 D E z 0 0 M 0 [(0, .ref (z + t0)), (1, .int a1), (2, .int a2)] []
  refine am_iload_n F 1 dX8_makeLift_0 rfl rfl ?_
  obtain ⟨v3, M2, h1, h⟩ := am_bE h
  refine am_callSNi F [.int a1] cw_X8_96  (c_X9_isCell l D E z a1 M v3 M2 h1) yn_X9_isCell rfl ⟨Nat.le_of_ble_eq_true rfl, Nat.le_of_ble_eq_true rfl⟩ rfl rfl (Nat.le_of_ble_eq_true rfl) ⟨Nat.zero_le _, Nat.zero_le _⟩ dX8_makeLift_1 rfl ?_
  refine am_if_eq F (tgt := 14) dX8_makeLift_4 (by decide) (fun c28 => ?_) (fun c28 => ?_)
  · have h := (if_pos c28).symm.trans h
    refine am_iconst F (v := (1 : Int32)) dX8_makeLift_14 (by decide) ?_
    exact am_iret F hr h dX8_makeLift_15
  · have h := (if_neg c28).symm.trans h
    refine am_iload_n F 2 dX8_makeLift_7 rfl rfl ?_
    obtain ⟨v6, M5, h4, h⟩ := am_bE h
    refine am_callSNi F [.int a2] cw_X8_96  (c_X9_isCell l D E z a2 M2 v6 M5 h4) yn_X9_isCell rfl ⟨Nat.le_of_ble_eq_true rfl, Nat.le_of_ble_eq_true rfl⟩ rfl rfl (Nat.le_of_ble_eq_true rfl) ⟨Nat.zero_le _, Nat.zero_le _⟩ dX8_makeLift_8 rfl ?_
    refine am_if_ne F (tgt := 16) dX8_makeLift_11 (by decide) (fun c27 => ?_) (fun c27 => ?_)
    · have h := (if_neg c27).symm.trans h
      refine am_iload_n F 1 dX8_makeLift_16 rfl rfl ?_
      refine am_iload_n F 2 dX8_makeLift_17 rfl rfl ?_
      refine am_icmp_eq F (tgt := 65) dX8_makeLift_18 (by decide) (fun c26 => ?_) (fun c26 => ?_)
      · have h := (if_pos c26).symm.trans h
        refine am_iconst F (v := (2 : Int32)) dX8_makeLift_65 (by decide) ?_
        exact am_iret F hr h dX8_makeLift_66
      · have h := (if_neg c26).symm.trans h
        refine am_aload_n F 0 dX8_makeLift_21 rfl rfl ?_
        refine gf_X8_12 F y0 dX8_makeLift_22 ?_
        refine am_iload_n F 1 dX8_makeLift_25 rfl rfl ?_
        obtain ⟨v9, M8, h7, h⟩ := am_bE h
        refine am_callVi F [.int a1] (lyf_8_floor y0) (by decide) rfl cw_X8_114 (c_X1_isWall l D E z (t0 + 1) (lyf_8_floor y0) a1 M5 v9 M8 h7) yn_X1_isWall rfl ⟨Nat.le_of_ble_eq_true rfl, Nat.le_of_ble_eq_true rfl⟩ rfl rfl (Nat.le_of_ble_eq_true rfl) ⟨Nat.zero_le _, Nat.zero_le _⟩ dX8_makeLift_26 rfl ?_
        refine am_if_ne F (tgt := 65) dX8_makeLift_29 (by decide) (fun c25 => ?_) (fun c25 => ?_)
        · have h := (if_neg c25).symm.trans h
          refine am_iconst F (v := (2 : Int32)) dX8_makeLift_65 (by decide) ?_
          exact am_iret F hr h dX8_makeLift_66
        · have h := (if_pos c25).symm.trans h
          refine am_aload_n F 0 dX8_makeLift_32 rfl rfl ?_
          refine gf_X8_12 F y0 dX8_makeLift_33 ?_
          refine am_iload_n F 2 dX8_makeLift_36 rfl rfl ?_
          obtain ⟨v12, M11, h10, h⟩ := am_bE h
          refine am_callVi F [.int a2] (lyf_8_floor y0) (by decide) rfl cw_X8_114 (c_X1_isWall l D E z (t0 + 1) (lyf_8_floor y0) a2 M8 v12 M11 h10) yn_X1_isWall rfl ⟨Nat.le_of_ble_eq_true rfl, Nat.le_of_ble_eq_true rfl⟩ rfl rfl (Nat.le_of_ble_eq_true rfl) ⟨Nat.zero_le _, Nat.zero_le _⟩ dX8_makeLift_37 rfl ?_
          refine am_if_ne F (tgt := 65) dX8_makeLift_40 (by decide) (fun c24 => ?_) (fun c24 => ?_)
          · have h := (if_neg c24).symm.trans h
            refine am_iconst F (v := (2 : Int32)) dX8_makeLift_65 (by decide) ?_
            exact am_iret F hr h dX8_makeLift_66
          · have h := (if_pos c24).symm.trans h
            refine am_aload_n F 0 dX8_makeLift_43 rfl rfl ?_
            refine gf_X8_12 F y0 dX8_makeLift_44 ?_
            refine am_iload_n F 1 dX8_makeLift_47 rfl rfl ?_
            obtain ⟨v15, M14, h13, h⟩ := am_bE h
            refine am_callVi F [.int a1] (lyf_8_floor y0) (by decide) rfl cw_X8_100 (c_X1_isLiftEnd l D E z (t0 + 1) (lyf_8_floor y0) a1 M11 v15 M14 h13) yn_X1_isLiftEnd rfl ⟨Nat.le_of_ble_eq_true rfl, Nat.le_of_ble_eq_true rfl⟩ rfl rfl (Nat.le_of_ble_eq_true rfl) ⟨Nat.zero_le _, Nat.zero_le _⟩ dX8_makeLift_48 rfl ?_
            refine am_if_ne F (tgt := 65) dX8_makeLift_51 (by decide) (fun c23 => ?_) (fun c23 => ?_)
            · have h := (if_neg c23).symm.trans h
              refine am_iconst F (v := (2 : Int32)) dX8_makeLift_65 (by decide) ?_
              exact am_iret F hr h dX8_makeLift_66
            · have h := (if_pos c23).symm.trans h
              refine am_aload_n F 0 dX8_makeLift_54 rfl rfl ?_
              refine gf_X8_12 F y0 dX8_makeLift_55 ?_
              refine am_iload_n F 2 dX8_makeLift_58 rfl rfl ?_
              obtain ⟨v18, M17, h16, h⟩ := am_bE h
              refine am_callVi F [.int a2] (lyf_8_floor y0) (by decide) rfl cw_X8_100 (c_X1_isLiftEnd l D E z (t0 + 1) (lyf_8_floor y0) a2 M14 v18 M17 h16) yn_X1_isLiftEnd rfl ⟨Nat.le_of_ble_eq_true rfl, Nat.le_of_ble_eq_true rfl⟩ rfl rfl (Nat.le_of_ble_eq_true rfl) ⟨Nat.zero_le _, Nat.zero_le _⟩ dX8_makeLift_59 rfl ?_
              refine am_if_eq F (tgt := 67) dX8_makeLift_62 (by decide) (fun c22 => ?_) (fun c22 => ?_)
              · have h := (if_pos c22).symm.trans h
                refine am_aload_n F 0 dX8_makeLift_67 rfl rfl ?_
                refine gf_X8_12 F y0 dX8_makeLift_68 ?_
                refine gf_X8_117 F (lyf_8_floor y0) dX8_makeLift_71 ?_
                refine am_iconst F (v := (2 : Int32)) dX8_makeLift_74 (by decide) ?_
                refine am_icmp_lt F (tgt := 80) dX8_makeLift_75 (by decide) (fun c21 => ?_) (fun c21 => ?_)
                · have h := (if_pos c21).symm.trans h
                  refine am_aload_n F 0 dX8_makeLift_80 rfl rfl ?_
                  refine gf_X8_12 F y0 dX8_makeLift_81 ?_
                  refine am_iload_n F 1 dX8_makeLift_84 rfl rfl ?_
                  refine am_iload_n F 2 dX8_makeLift_85 rfl rfl ?_
                  obtain ⟨_, M20, h19, h⟩ := am_bE h
                  refine am_callVv F [.int a1, .int a2] (lyf_8_floor y0) (by decide) rfl cw_X8_120 (c_X1_addLiftBetween l D E z (t0 + 1) (lyf_8_floor y0) a1 a2 M17 M20 h19) yn_X1_addLiftBetween rfl ⟨Nat.le_of_ble_eq_true rfl, Nat.le_of_ble_eq_true rfl⟩ rfl rfl (Nat.le_of_ble_eq_true rfl) ⟨Nat.zero_le _, Nat.zero_le _⟩ dX8_makeLift_86 rfl ?_
                  refine am_iconst F (v := (0 : Int32)) dX8_makeLift_89 (by decide) ?_
                  exact am_iret F hr h dX8_makeLift_90
                · have h := (if_neg c21).symm.trans h
                  refine am_iconst F (v := (3 : Int32)) dX8_makeLift_78 (by decide) ?_
                  exact am_iret F hr h dX8_makeLift_79
              · have h := (if_neg c22).symm.trans h
                refine am_iconst F (v := (2 : Int32)) dX8_makeLift_65 (by decide) ?_
                exact am_iret F hr h dX8_makeLift_66
    · have h := (if_pos c27).symm.trans h
      refine am_iconst F (v := (1 : Int32)) dX8_makeLift_14 (by decide) ?_
      exact am_iret F hr h dX8_makeLift_15
/-! AisleScheduler$World.makeRobot(II)I -/
abbrev rm_X8_makeRobot : Room := { frames := 4, cells := 0, slots := 0, locals := 91 }
theorem yn_X8_makeRobot : am_yn yX8_makeRobot 2 := ⟨⟨by decide +kernel, by decide +kernel⟩, by decide +kernel⟩
def g_X8_makeRobot (t0 : Nat) (a1 : Int32) (a2 : Int32) (M : am_M) : Option (Int32 × am_M) := (am_b (g_X9_isCell a1 M) (fun v3 M2 => (if v3 = (0 : Int32) then (some ((1 : Int32), M2)) else (if a2 < (0 : Int32) then (some ((2 : Int32), M2)) else (if (100 : Int32) < a2 then (some ((2 : Int32), M2)) else (am_b (g_X1_isWall (t0 + 1) a1 M2) (fun v6 M5 => (if v6 = (0 : Int32) then (if (5 : Int32) ≤ (am_g M5 t0 2) then (some ((3 : Int32), M5)) else (am_b (g_X8_isMet t0 a1 (-1 : Int32) M5) (fun v9 M8 => (if v9 = (0 : Int32) then (am_b (g_X8_robotOf t0 (am_g M8 t0 2) M8) (fun v12 M11 => (am_b (g_X4_begin v12 a1 a2 (am_g M11 t0 4) M11) (fun _ M14 => (some ((0 : Int32), (am_s M14 t0 2 ((am_g M14 t0 2) + (1 : Int32))))))))) else (some ((3 : Int32), M8)))))) else (some ((2 : Int32), M5))))))))))
set_option maxHeartbeats 4000000 in
set_option maxRecDepth 100000 in
theorem c_X8_makeRobot (l : Launch) (D : va_G) (E : Nat → ClassId) (z : Nat) (t0 : Nat) (y0 : am_ly t0 = (8, 0)) (a1 : Int32) (a2 : Int32) (M : am_M) (r0 : Int32) (M1 : am_M) (h : g_X8_makeRobot t0 a1 a2 M = some (r0, M1)) : am_Mi l yX8_makeRobot cX8_makeRobot 3 (some .int) rm_X8_makeRobot D E z [.ref (z + t0), .int a1, .int a2] M r0 M1 := by
  unfold g_X8_makeRobot at h
  refine am_of (own := RX8) (by decide +kernel) rfl (by exact Nat.le_of_ble_eq_true rfl) ?_
  intro p e s m args below meth c F hr
  show am_W p l e rm_X8_makeRobot s m args below meth c _ 3 D E z 0 0 M 0 [(0, .ref (z + t0)), (1, .int a1), (2, .int a2)] []
  refine am_iload_n F 1 dX8_makeRobot_0 rfl rfl ?_
  obtain ⟨v3, M2, h1, h⟩ := am_bE h
  refine am_callSNi F [.int a1] cw_X8_96  (c_X9_isCell l D E z a1 M v3 M2 h1) yn_X9_isCell rfl ⟨Nat.le_of_ble_eq_true rfl, Nat.le_of_ble_eq_true rfl⟩ rfl rfl (Nat.le_of_ble_eq_true rfl) ⟨Nat.zero_le _, Nat.zero_le _⟩ dX8_makeRobot_1 rfl ?_
  refine am_if_ne F (tgt := 9) dX8_makeRobot_4 (by decide) (fun c20 => ?_) (fun c20 => ?_)
  · have h := (if_neg c20).symm.trans h
    refine am_iload_n F 2 dX8_makeRobot_9 rfl rfl ?_
    refine am_if_lt F (tgt := 30) dX8_makeRobot_10 (by decide) (fun c19 => ?_) (fun c19 => ?_)
    · have h := (if_pos c19).symm.trans h
      refine am_iconst F (v := (2 : Int32)) dX8_makeRobot_30 (by decide) ?_
      exact am_iret F hr h dX8_makeRobot_31
    · have h := (if_neg c19).symm.trans h
      refine am_iload_n F 2 dX8_makeRobot_13 rfl rfl ?_
      refine am_bipush F (v := (100 : Int32)) dX8_makeRobot_14 (by decide) ?_
      refine am_icmp_gt F (tgt := 30) dX8_makeRobot_16 (by decide) (fun c18 => ?_) (fun c18 => ?_)
      · have h := (if_pos c18).symm.trans h
        refine am_iconst F (v := (2 : Int32)) dX8_makeRobot_30 (by decide) ?_
        exact am_iret F hr h dX8_makeRobot_31
      · have h := (if_neg c18).symm.trans h
        refine am_aload_n F 0 dX8_makeRobot_19 rfl rfl ?_
        refine gf_X8_12 F y0 dX8_makeRobot_20 ?_
        refine am_iload_n F 1 dX8_makeRobot_23 rfl rfl ?_
        obtain ⟨v6, M5, h4, h⟩ := am_bE h
        refine am_callVi F [.int a1] (lyf_8_floor y0) (by decide) rfl cw_X8_114 (c_X1_isWall l D E z (t0 + 1) (lyf_8_floor y0) a1 M2 v6 M5 h4) yn_X1_isWall rfl ⟨Nat.le_of_ble_eq_true rfl, Nat.le_of_ble_eq_true rfl⟩ rfl rfl (Nat.le_of_ble_eq_true rfl) ⟨Nat.zero_le _, Nat.zero_le _⟩ dX8_makeRobot_24 rfl ?_
        refine am_if_eq F (tgt := 32) dX8_makeRobot_27 (by decide) (fun c17 => ?_) (fun c17 => ?_)
        · have h := (if_pos c17).symm.trans h
          refine am_aload_n F 0 dX8_makeRobot_32 rfl rfl ?_
          refine gf_X8_51 F y0 dX8_makeRobot_33 ?_
          refine am_iconst F (v := (5 : Int32)) dX8_makeRobot_36 (by decide) ?_
          refine am_icmp_ge F (tgt := 49) dX8_makeRobot_37 (by decide) (fun c16 => ?_) (fun c16 => ?_)
          · have h := (if_pos c16).symm.trans h
            refine am_iconst F (v := (3 : Int32)) dX8_makeRobot_49 (by decide) ?_
            exact am_iret F hr h dX8_makeRobot_50
          · have h := (if_neg c16).symm.trans h
            refine am_aload_n F 0 dX8_makeRobot_40 rfl rfl ?_
            refine am_iload_n F 1 dX8_makeRobot_41 rfl rfl ?_
            refine am_iconst F (v := (-1 : Int32)) dX8_makeRobot_42 (by decide) ?_
            obtain ⟨v9, M8, h7, h⟩ := am_bE h
            refine am_callVi F [.int a1, .int (-1 : Int32)] y0 (by decide) rfl cw_X8_103 (c_X8_isMet l D E z t0 y0 a1 (-1 : Int32) M5 v9 M8 h7) yn_X8_isMet rfl ⟨Nat.le_of_ble_eq_true rfl, Nat.le_of_ble_eq_true rfl⟩ rfl rfl (Nat.le_of_ble_eq_true rfl) ⟨Nat.zero_le _, Nat.zero_le _⟩ dX8_makeRobot_43 rfl ?_
            refine am_if_eq F (tgt := 51) dX8_makeRobot_46 (by decide) (fun c15 => ?_) (fun c15 => ?_)
            · have h := (if_pos c15).symm.trans h
              refine am_aload_n F 0 dX8_makeRobot_51 rfl rfl ?_
              refine am_aload_n F 0 dX8_makeRobot_52 rfl rfl ?_
              refine gf_X8_51 F y0 dX8_makeRobot_53 ?_
              obtain ⟨v12, M11, h10, h⟩ := am_bE h
              refine am_callVr F [.int (am_g M8 t0 2)] y0 (by decide) rfl cw_X8_69 (c_X8_robotOf l D E z t0 y0 (am_g M8 t0 2) M8 v12 M11 h10) yn_X8_robotOf rfl ⟨Nat.le_of_ble_eq_true rfl, Nat.le_of_ble_eq_true rfl⟩ rfl rfl (Nat.le_of_ble_eq_true rfl) ⟨Nat.zero_le _, Nat.zero_le _⟩ dX8_makeRobot_56 rfl ?_
              refine am_iload_n F 1 dX8_makeRobot_59 rfl rfl ?_
              refine am_iload_n F 2 dX8_makeRobot_60 rfl rfl ?_
              refine am_aload_n F 0 dX8_makeRobot_61 rfl rfl ?_
              refine gf_X8_58 F y0 dX8_makeRobot_62 ?_
              obtain ⟨_, M14, h13, h⟩ := am_bE h
              refine am_callVv F [.int a1, .int a2, .int (am_g M11 t0 4)] (q_X8_robotOf t0 y0 (am_g M8 t0 2) M8 v12 M11 h10) (by decide) rfl cw_X8_124 (c_X4_begin l D E z v12 (q_X8_robotOf t0 y0 (am_g M8 t0 2) M8 v12 M11 h10) a1 a2 (am_g M11 t0 4) M11 M14 h13) yn_X4_begin rfl ⟨Nat.le_of_ble_eq_true rfl, Nat.le_of_ble_eq_true rfl⟩ rfl rfl (Nat.le_of_ble_eq_true rfl) ⟨Nat.zero_le _, Nat.zero_le _⟩ dX8_makeRobot_65 rfl ?_
              refine am_aload_n F 0 dX8_makeRobot_68 rfl rfl ?_
              refine am_dup F dX8_makeRobot_69 rfl ?_
              refine gf_X8_51 F y0 dX8_makeRobot_70 ?_
              refine am_iconst F (v := (1 : Int32)) dX8_makeRobot_73 (by decide) ?_
              refine am_iadd F dX8_makeRobot_74 ?_
              refine pf_X8_51 F y0 dX8_makeRobot_75 ?_
              refine am_iconst F (v := (0 : Int32)) dX8_makeRobot_78 (by decide) ?_
              exact am_iret F hr h dX8_makeRobot_79
            · have h := (if_neg c15).symm.trans h
              refine am_iconst F (v := (3 : Int32)) dX8_makeRobot_49 (by decide) ?_
              exact am_iret F hr h dX8_makeRobot_50
        · have h := (if_neg c17).symm.trans h
          refine am_iconst F (v := (2 : Int32)) dX8_makeRobot_30 (by decide) ?_
          exact am_iret F hr h dX8_makeRobot_31
  · have h := (if_pos c20).symm.trans h
    refine am_iconst F (v := (1 : Int32)) dX8_makeRobot_7 (by decide) ?_
    exact am_iret F hr h dX8_makeRobot_8
/-! AisleScheduler$World.follow(III)I -/
abbrev rm_X8_follow : Room := { frames := 5, cells := 0, slots := 0, locals := 113 }
theorem yn_X8_follow : am_yn yX8_follow 3 := ⟨⟨by decide +kernel, by decide +kernel⟩, by decide +kernel⟩
def g_X8_follow (t0 : Nat) (a1 : Int32) (a2 : Int32) (a3 : Int32) (M : am_M) : Option (Int32 × am_M) := (if a1 = (99 : Int32) then (am_b (g_X8_makeKind t0 a2 (2 : Int32) M) (fun v4 M3 => (some (v4, M3)))) else (if a1 = (102 : Int32) then (am_b (g_X8_makeKind t0 a2 (0 : Int32) M) (fun v8 M7 => (some (v8, M7)))) else (if a1 = (108 : Int32) then (am_b (g_X8_makeLift t0 a2 a3 M) (fun v12 M11 => (some (v12, M11)))) else (if a1 = (119 : Int32) then (am_b (g_X8_makeKind t0 a2 (1 : Int32) M) (fun v16 M15 => (some (v16, M15)))) else (am_b (g_X8_makeRobot t0 a2 (100 : Int32) M) (fun v19 M18 => (some (v19, M18))))))))
set_option maxHeartbeats 4000000 in
set_option maxRecDepth 100000 in
theorem c_X8_follow (l : Launch) (D : va_G) (E : Nat → ClassId) (z : Nat) (t0 : Nat) (y0 : am_ly t0 = (8, 0)) (a1 : Int32) (a2 : Int32) (a3 : Int32) (M : am_M) (r0 : Int32) (M1 : am_M) (h : g_X8_follow t0 a1 a2 a3 M = some (r0, M1)) : am_Mi l yX8_follow cX8_follow 4 (some .int) rm_X8_follow D E z [.ref (z + t0), .int a1, .int a2, .int a3] M r0 M1 := by
  unfold g_X8_follow at h
  refine am_of (own := RX8) (by decide +kernel) rfl (by exact Nat.le_of_ble_eq_true rfl) ?_
  intro p e s m args below meth c F hr
  show am_W p l e rm_X8_follow s m args below meth c _ 4 D E z 0 0 M 0 [(0, .ref (z + t0)), (1, .int a1), (2, .int a2), (3, .int a3)] []
  refine am_iload_n F 1 dX8_follow_0 rfl rfl ?_
  by_cases c1 : a1 = (99 : Int32)
  · have h := (if_pos c1).symm.trans h
    refine am_lookup F (tgt := 51) (off := 50) dX8_follow_1 (by decide) (by rw [c1]; decide) (by decide) ?_
    refine am_aload_n F 0 dX8_follow_51 rfl rfl ?_
    refine am_iload_n F 2 dX8_follow_52 rfl rfl ?_
    refine am_iconst F (v := (2 : Int32)) dX8_follow_53 (by decide) ?_
    obtain ⟨v4, M3, h2, h⟩ := am_bE h
    refine am_callVi F [.int a2, .int (2 : Int32)] y0 (by decide) rfl cw_X8_128 (c_X8_makeKind l D E z t0 y0 a2 (2 : Int32) M v4 M3 h2) yn_X8_makeKind rfl ⟨Nat.le_of_ble_eq_true rfl, Nat.le_of_ble_eq_true rfl⟩ rfl rfl (Nat.le_of_ble_eq_true rfl) ⟨Nat.zero_le _, Nat.zero_le _⟩ dX8_follow_54 rfl ?_
    exact am_iret F hr h dX8_follow_57
  · have h := (if_neg c1).symm.trans h
    by_cases c5 : a1 = (102 : Int32)
    · have h := (if_pos c5).symm.trans h
      refine am_lookup F (tgt := 58) (off := 57) dX8_follow_1 (by decide) (by rw [c5]; decide) (by decide) ?_
      refine am_aload_n F 0 dX8_follow_58 rfl rfl ?_
      refine am_iload_n F 2 dX8_follow_59 rfl rfl ?_
      refine am_iconst F (v := (0 : Int32)) dX8_follow_60 (by decide) ?_
      obtain ⟨v8, M7, h6, h⟩ := am_bE h
      refine am_callVi F [.int a2, .int (0 : Int32)] y0 (by decide) rfl cw_X8_128 (c_X8_makeKind l D E z t0 y0 a2 (0 : Int32) M v8 M7 h6) yn_X8_makeKind rfl ⟨Nat.le_of_ble_eq_true rfl, Nat.le_of_ble_eq_true rfl⟩ rfl rfl (Nat.le_of_ble_eq_true rfl) ⟨Nat.zero_le _, Nat.zero_le _⟩ dX8_follow_61 rfl ?_
      exact am_iret F hr h dX8_follow_64
    · have h := (if_neg c5).symm.trans h
      by_cases c9 : a1 = (108 : Int32)
      · have h := (if_pos c9).symm.trans h
        refine am_lookup F (tgt := 65) (off := 64) dX8_follow_1 (by decide) (by rw [c9]; decide) (by decide) ?_
        refine am_aload_n F 0 dX8_follow_65 rfl rfl ?_
        refine am_iload_n F 2 dX8_follow_66 rfl rfl ?_
        refine am_iload_n F 3 dX8_follow_67 rfl rfl ?_
        obtain ⟨v12, M11, h10, h⟩ := am_bE h
        refine am_callVi F [.int a2, .int a3] y0 (by decide) rfl cw_X8_132 (c_X8_makeLift l D E z t0 y0 a2 a3 M v12 M11 h10) yn_X8_makeLift rfl ⟨Nat.le_of_ble_eq_true rfl, Nat.le_of_ble_eq_true rfl⟩ rfl rfl (Nat.le_of_ble_eq_true rfl) ⟨Nat.zero_le _, Nat.zero_le _⟩ dX8_follow_68 rfl ?_
        exact am_iret F hr h dX8_follow_71
      · have h := (if_neg c9).symm.trans h
        by_cases c13 : a1 = (119 : Int32)
        · have h := (if_pos c13).symm.trans h
          refine am_lookup F (tgt := 44) (off := 43) dX8_follow_1 (by decide) (by rw [c13]; decide) (by decide) ?_
          refine am_aload_n F 0 dX8_follow_44 rfl rfl ?_
          refine am_iload_n F 2 dX8_follow_45 rfl rfl ?_
          refine am_iconst F (v := (1 : Int32)) dX8_follow_46 (by decide) ?_
          obtain ⟨v16, M15, h14, h⟩ := am_bE h
          refine am_callVi F [.int a2, .int (1 : Int32)] y0 (by decide) rfl cw_X8_128 (c_X8_makeKind l D E z t0 y0 a2 (1 : Int32) M v16 M15 h14) yn_X8_makeKind rfl ⟨Nat.le_of_ble_eq_true rfl, Nat.le_of_ble_eq_true rfl⟩ rfl rfl (Nat.le_of_ble_eq_true rfl) ⟨Nat.zero_le _, Nat.zero_le _⟩ dX8_follow_47 rfl ?_
          exact am_iret F hr h dX8_follow_50
        · have h := (if_neg c13).symm.trans h
          refine am_lookup F (tgt := 72) (off := 71) dX8_follow_1 (by decide) (am_lkd 71 [(99, 50), (102, 57), (108, 64), (119, 43)] (fun k hk => match k, hk with | 0, _ => am_ne9 (n := 99) c1 (by decide) | 1, _ => am_ne9 (n := 102) c5 (by decide) | 2, _ => am_ne9 (n := 108) c9 (by decide) | 3, _ => am_ne9 (n := 119) c13 (by decide))) (by decide) ?_
          refine am_aload_n F 0 dX8_follow_72 rfl rfl ?_
          refine am_iload_n F 2 dX8_follow_73 rfl rfl ?_
          refine am_bipush F (v := (100 : Int32)) dX8_follow_74 (by decide) ?_
          obtain ⟨v19, M18, h17, h⟩ := am_bE h
          refine am_callVi F [.int a2, .int (100 : Int32)] y0 (by decide) rfl cw_X8_135 (c_X8_makeRobot l D E z t0 y0 a2 (100 : Int32) M v19 M18 h17) yn_X8_makeRobot rfl ⟨Nat.le_of_ble_eq_true rfl, Nat.le_of_ble_eq_true rfl⟩ rfl rfl (Nat.le_of_ble_eq_true rfl) ⟨Nat.zero_le _, Nat.zero_le _⟩ dX8_follow_76 rfl ?_
          exact am_iret F hr h dX8_follow_79
/-! AisleScheduler$World.act(LAisleScheduler$Robot;)V -/
abbrev rm_X8_act : Room := { frames := 4, cells := 0, slots := 0, locals := 90 }
theorem yn_X8_act : am_yn yX8_act 1 := ⟨⟨by decide +kernel, by decide +kernel⟩, by decide +kernel⟩
def g_X8_act (t0 : Nat) (t1 : Nat) (M : am_M) : Option (Unit × am_M) := (am_b (g_X2_actionAt (t1 + 1) (am_g M t0 4) M) (fun v3 M2 => (am_b (g_X2_placeAt (t1 + 1) (am_g M2 t0 4) M2) (fun v6 M5 => (if v3 < (5 : Int32) then (if v3 = (0 : Int32) then (am_b (g_X4_raiseStatistic t1 (2 : Int32) (1 : Int32) M5) (fun _ M8 => (am_b (g_X9_at ((t0 + 1) + 1) 40 v6 M8) (fun v11 M10 => (if v11 = (2 : Int32) then (am_b (g_X4_gain t1 M10) (fun _ M13 => (some ((), M13)))) else (some ((), M10))))))) else (am_b (g_X4_spend t1 (0 : Int32) (1 : Int32) M5) (fun _ M16 => (some ((), M16))))) else (if v6 < (0 : Int32) then (some ((), M5)) else (am_b (g_X4_spend t1 (1 : Int32) (2 : Int32) M5) (fun _ M19 => (some ((), M19))))))))))
set_option maxHeartbeats 4000000 in
set_option maxRecDepth 100000 in
theorem c_X8_act (l : Launch) (D : va_G) (E : Nat → ClassId) (z : Nat) (t0 : Nat) (y0 : am_ly t0 = (8, 0)) (t1 : Nat) (y1 : am_ly t1 = (4, 0)) (M : am_M)  (M1 : am_M) (h : g_X8_act t0 t1 M = some ((), M1)) : am_Mv l yX8_act cX8_act 4 none rm_X8_act D E z [.ref (z + t0), .ref (z + t1)] M M1 := by
  unfold g_X8_act at h
  refine am_of (own := RX8) (by decide +kernel) rfl (by exact Nat.le_of_ble_eq_true rfl) ?_
  intro p e s m args below meth c F hr
  show am_W p l e rm_X8_act s m args below meth c _ 4 D E z 0 0 M 0 [(0, .ref (z + t0)), (1, .ref (z + t1))] []
  refine am_aload_n F 1 dX8_act_0 rfl rfl ?_
  refine gf_X8_83 F y1 dX8_act_1 ?_
  refine am_aload_n F 0 dX8_act_4 rfl rfl ?_
  refine gf_X8_58 F y0 dX8_act_5 ?_
  obtain ⟨v3, M2, h1, h⟩ := am_bE h
  refine am_callVi F [.int (am_g M t0 4)] (lyf_4_plan y1) (by decide) rfl cw_X8_158 (c_X2_actionAt l D E z (t1 + 1) (lyf_4_plan y1) (am_g M t0 4) M v3 M2 h1) yn_X2_actionAt rfl ⟨Nat.le_of_ble_eq_true rfl, Nat.le_of_ble_eq_true rfl⟩ rfl rfl (Nat.le_of_ble_eq_true rfl) ⟨Nat.zero_le _, Nat.zero_le _⟩ dX8_act_8 rfl ?_
  refine am_istore_n F [(2, .int v3), (0, .ref (z + t0)), (1, .ref (z + t1))] dX8_act_11 rfl (by decide) rfl ?_
  refine am_aload_n F 2 dX8_act_12 rfl rfl ?_
  refine gf_X8_83 F y1 dX8_act_13 ?_
  refine am_aload_n F 1 dX8_act_16 rfl rfl ?_
  refine gf_X8_58 F y0 dX8_act_17 ?_
  obtain ⟨v6, M5, h4, h⟩ := am_bE h
  refine am_callVi F [.int (am_g M2 t0 4)] (lyf_4_plan y1) (by decide) rfl cw_X8_93 (c_X2_placeAt l D E z (t1 + 1) (lyf_4_plan y1) (am_g M2 t0 4) M2 v6 M5 h4) yn_X2_placeAt rfl ⟨Nat.le_of_ble_eq_true rfl, Nat.le_of_ble_eq_true rfl⟩ rfl rfl (Nat.le_of_ble_eq_true rfl) ⟨Nat.zero_le _, Nat.zero_le _⟩ dX8_act_20 rfl ?_
  refine am_istore_n F [(3, .int v6), (2, .int v3), (0, .ref (z + t0)), (1, .ref (z + t1))] dX8_act_23 rfl (by decide) rfl ?_
  refine am_iload_n F 1 dX8_act_24 rfl rfl ?_
  refine am_iconst F (v := (5 : Int32)) dX8_act_25 (by decide) ?_
  refine am_icmp_lt F (tgt := 42) dX8_act_26 (by decide) (fun c21 => ?_) (fun c21 => ?_)
  · have h := (if_pos c21).symm.trans h
    refine am_iload_n F 1 dX8_act_42 rfl rfl ?_
    refine am_if_eq F (tgt := 55) dX8_act_43 (by decide) (fun c17 => ?_) (fun c17 => ?_)
    · have h := (if_pos c17).symm.trans h
      refine am_aload_n F 3 dX8_act_55 rfl rfl ?_
      refine am_iconst F (v := (2 : Int32)) dX8_act_56 (by decide) ?_
      refine am_iconst F (v := (1 : Int32)) dX8_act_57 (by decide) ?_
      obtain ⟨_, M8, h7, h⟩ := am_bE h
      refine am_callVv F [.int (2 : Int32), .int (1 : Int32)] y1 (by decide) rfl cw_X8_164 (c_X4_raiseStatistic l D E z t1 y1 (2 : Int32) (1 : Int32) M5 M8 h7) yn_X4_raiseStatistic rfl ⟨Nat.le_of_ble_eq_true rfl, Nat.le_of_ble_eq_true rfl⟩ rfl rfl (Nat.le_of_ble_eq_true rfl) ⟨Nat.zero_le _, Nat.zero_le _⟩ dX8_act_58 rfl ?_
      refine am_aload_n F 2 dX8_act_61 rfl rfl ?_
      refine gf_X8_12 F y0 dX8_act_62 ?_
      refine gf_X8_107 F (lyf_8_floor y0) dX8_act_65 ?_
      refine am_iload_n F 0 dX8_act_68 rfl rfl ?_
      obtain ⟨v11, M10, h9, h⟩ := am_bE h
      refine am_callSNi F [.ref (z + ((t0 + 1) + 1)), .int v6] cw_X8_147  (c_X9_at l D E z ((t0 + 1) + 1) 40 (lyf_1_kinds (lyf_8_floor y0)) v6 M8 v11 M10 h9) yn_X9_at rfl ⟨Nat.le_of_ble_eq_true rfl, Nat.le_of_ble_eq_true rfl⟩ rfl rfl (Nat.le_of_ble_eq_true rfl) ⟨Nat.zero_le _, Nat.zero_le _⟩ dX8_act_69 rfl ?_
      refine am_iconst F (v := (2 : Int32)) dX8_act_72 (by decide) ?_
      refine am_icmp_ne F (tgt := 80) dX8_act_73 (by decide) (fun c14 => ?_) (fun c14 => ?_)
      · have h := (if_neg c14).symm.trans h
        exact am_vret F hr h dX8_act_80
      · have h := (if_pos c14).symm.trans h
        refine am_aload_n F 3 dX8_act_76 rfl rfl ?_
        obtain ⟨_, M13, h12, h⟩ := am_bE h
        refine am_callVv F [] y1 (by decide) rfl cw_X8_167 (c_X4_gain l D E z t1 y1 M10 M13 h12) yn_X4_gain rfl ⟨Nat.le_of_ble_eq_true rfl, Nat.le_of_ble_eq_true rfl⟩ rfl rfl (Nat.le_of_ble_eq_true rfl) ⟨Nat.zero_le _, Nat.zero_le _⟩ dX8_act_77 rfl ?_
        exact am_vret F hr h dX8_act_80
    · have h := (if_neg c17).symm.trans h
      refine am_aload_n F 3 dX8_act_46 rfl rfl ?_
      refine am_iconst F (v := (0 : Int32)) dX8_act_47 (by decide) ?_
      refine am_iconst F (v := (1 : Int32)) dX8_act_48 (by decide) ?_
      obtain ⟨_, M16, h15, h⟩ := am_bE h
      refine am_callVv F [.int (0 : Int32), .int (1 : Int32)] y1 (by decide) rfl cw_X8_161 (c_X4_spend l D E z t1 y1 (0 : Int32) (1 : Int32) M5 M16 h15) yn_X4_spend rfl ⟨Nat.le_of_ble_eq_true rfl, Nat.le_of_ble_eq_true rfl⟩ rfl rfl (Nat.le_of_ble_eq_true rfl) ⟨Nat.zero_le _, Nat.zero_le _⟩ dX8_act_49 rfl ?_
      refine am_goto F (tgt := 80) dX8_act_52 (by decide) ?_
      exact am_vret F hr h dX8_act_80
  · have h := (if_neg c21).symm.trans h
    refine am_iload_n F 0 dX8_act_29 rfl rfl ?_
    refine am_if_lt F (tgt := 80) dX8_act_30 (by decide) (fun c20 => ?_) (fun c20 => ?_)
    · have h := (if_pos c20).symm.trans h
      exact am_vret F hr h dX8_act_80
    · have h := (if_neg c20).symm.trans h
      refine am_aload_n F 3 dX8_act_33 rfl rfl ?_
      refine am_iconst F (v := (1 : Int32)) dX8_act_34 (by decide) ?_
      refine am_iconst F (v := (2 : Int32)) dX8_act_35 (by decide) ?_
      obtain ⟨_, M19, h18, h⟩ := am_bE h
      refine am_callVv F [.int (1 : Int32), .int (2 : Int32)] y1 (by decide) rfl cw_X8_161 (c_X4_spend l D E z t1 y1 (1 : Int32) (2 : Int32) M5 M19 h18) yn_X4_spend rfl ⟨Nat.le_of_ble_eq_true rfl, Nat.le_of_ble_eq_true rfl⟩ rfl rfl (Nat.le_of_ble_eq_true rfl) ⟨Nat.zero_le _, Nat.zero_le _⟩ dX8_act_36 rfl ?_
      refine am_goto F (tgt := 80) dX8_act_39 (by decide) ?_
      exact am_vret F hr h dX8_act_80
/-! AisleScheduler$World.finishTaskOf(LAisleScheduler$Robot;I)V -/
abbrev rm_X8_finishTaskOf : Room := { frames := 3, cells := 0, slots := 0, locals := 68 }
theorem yn_X8_finishTaskOf : am_yn yX8_finishTaskOf 2 := ⟨⟨by decide +kernel, by decide +kernel⟩, by decide +kernel⟩
def g_X8_finishTaskOf (t0 : Nat) (t1 : Nat) (a2 : Int32) (M : am_M) : Option (Unit × am_M) := (am_b (g_X8_taskOf t0 (am_g M t1 3) M) (fun v3 M2 => (am_b (g_X7_become v3 (2 : Int32) (0 : Int32) a2 M2) (fun _ M5 => (am_b (g_X4_raiseStatistic t1 (3 : Int32) (1 : Int32) (am_s (am_s M5 v3 8 (am_g M5 t0 4)) t1 3 (-1 : Int32))) (fun _ M7 => (some ((), M7))))))))
set_option maxHeartbeats 4000000 in
set_option maxRecDepth 100000 in
theorem c_X8_finishTaskOf (l : Launch) (D : va_G) (E : Nat → ClassId) (z : Nat) (t0 : Nat) (y0 : am_ly t0 = (8, 0)) (t1 : Nat) (y1 : am_ly t1 = (4, 0)) (a2 : Int32) (M : am_M)  (M1 : am_M) (h : g_X8_finishTaskOf t0 t1 a2 M = some ((), M1)) : am_Mv l yX8_finishTaskOf cX8_finishTaskOf 4 none rm_X8_finishTaskOf D E z [.ref (z + t0), .ref (z + t1), .int a2] M M1 := by
  unfold g_X8_finishTaskOf at h
  refine am_of (own := RX8) (by decide +kernel) rfl (by exact Nat.le_of_ble_eq_true rfl) ?_
  intro p e s m args below meth c F hr
  show am_W p l e rm_X8_finishTaskOf s m args below meth c _ 4 D E z 0 0 M 0 [(0, .ref (z + t0)), (1, .ref (z + t1)), (2, .int a2)] []
  refine am_aload_n F 0 dX8_finishTaskOf_0 rfl rfl ?_
  refine am_aload_n F 1 dX8_finishTaskOf_1 rfl rfl ?_
  refine gf_X8_138 F y1 dX8_finishTaskOf_2 ?_
  obtain ⟨v3, M2, h1, h⟩ := am_bE h
  refine am_callVr F [.int (am_g M t1 3)] y0 (by decide) rfl cw_X8_76 (c_X8_taskOf l D E z t0 y0 (am_g M t1 3) M v3 M2 h1) yn_X8_taskOf rfl ⟨Nat.le_of_ble_eq_true rfl, Nat.le_of_ble_eq_true rfl⟩ rfl rfl (Nat.le_of_ble_eq_true rfl) ⟨Nat.zero_le _, Nat.zero_le _⟩ dX8_finishTaskOf_5 rfl ?_
  refine am_astore_n F [(3, .ref (z + v3)), (0, .ref (z + t0)), (1, .ref (z + t1)), (2, .int a2)] dX8_finishTaskOf_8 rfl (by decide) rfl ?_
  refine am_aload_n F 0 dX8_finishTaskOf_9 rfl rfl ?_
  refine am_iconst F (v := (2 : Int32)) dX8_finishTaskOf_10 (by decide) ?_
  refine am_iconst F (v := (0 : Int32)) dX8_finishTaskOf_11 (by decide) ?_
  refine am_iload_n F 3 dX8_finishTaskOf_12 rfl rfl ?_
  obtain ⟨_, M5, h4, h⟩ := am_bE h
  refine am_callVv F [.int (2 : Int32), .int (0 : Int32), .int a2] (q_X8_taskOf t0 y0 (am_g M t1 3) M v3 M2 h1) (by decide) rfl cw_X8_141 (c_X7_become l D E z v3 (q_X8_taskOf t0 y0 (am_g M t1 3) M v3 M2 h1) (2 : Int32) (0 : Int32) a2 M2 M5 h4) yn_X7_become rfl ⟨Nat.le_of_ble_eq_true rfl, Nat.le_of_ble_eq_true rfl⟩ rfl rfl (Nat.le_of_ble_eq_true rfl) ⟨Nat.zero_le _, Nat.zero_le _⟩ dX8_finishTaskOf_13 rfl ?_
  refine am_aload_n F 0 dX8_finishTaskOf_16 rfl rfl ?_
  refine am_aload_n F 1 dX8_finishTaskOf_17 rfl rfl ?_
  refine gf_X8_58 F y0 dX8_finishTaskOf_18 ?_
  refine pf_X8_170 F (q_X8_taskOf t0 y0 (am_g M t1 3) M v3 M2 h1) dX8_finishTaskOf_21 ?_
  refine am_aload_n F 2 dX8_finishTaskOf_24 rfl rfl ?_
  refine am_iconst F (v := (-1 : Int32)) dX8_finishTaskOf_25 (by decide) ?_
  refine pf_X8_138 F y1 dX8_finishTaskOf_26 ?_
  refine am_aload_n F 2 dX8_finishTaskOf_29 rfl rfl ?_
  refine am_iconst F (v := (3 : Int32)) dX8_finishTaskOf_30 (by decide) ?_
  refine am_iconst F (v := (1 : Int32)) dX8_finishTaskOf_31 (by decide) ?_
  obtain ⟨_, M7, h6, h⟩ := am_bE h
  refine am_callVv F [.int (3 : Int32), .int (1 : Int32)] y1 (by decide) rfl cw_X8_164 (c_X4_raiseStatistic l D E z t1 y1 (3 : Int32) (1 : Int32) (am_s (am_s M5 v3 8 (am_g M5 t0 4)) t1 3 (-1 : Int32)) M7 h6) yn_X4_raiseStatistic rfl ⟨Nat.le_of_ble_eq_true rfl, Nat.le_of_ble_eq_true rfl⟩ rfl rfl (Nat.le_of_ble_eq_true rfl) ⟨Nat.zero_le _, Nat.zero_le _⟩ dX8_finishTaskOf_32 rfl ?_
  exact am_vret F hr h dX8_finishTaskOf_35
/-! AisleScheduler$World.passTick()I -/
abbrev rm_X8_passTick : Room := { frames := 5, cells := 0, slots := 0, locals := 113 }
theorem yn_X8_passTick : am_yn yX8_passTick 0 := ⟨⟨by decide +kernel, by decide +kernel⟩, by decide +kernel⟩
def g_X8_passTick_L2 (t0 : Nat) : Nat → Int32 → am_M → Option ((Unit) × am_M)
  | 0, _, _ => none
  | n + 1, a1, M => (if (am_g M t0 2) ≤ a1 then (some ((), M)) else (am_b (g_X8_robotOf t0 a1 M) (fun v3 M2 => (am_b (g_X8_act t0 v3 M2) (fun _ M5 => (g_X8_passTick_L2 t0 n (a1 + (1 : Int32)) M5))))))
set_option maxHeartbeats 4000000 in
set_option maxRecDepth 100000 in
theorem cl_X8_passTick_L2 {l : Launch} {p : Program} {e : Env} {s : State} {m : MethodId} {args : Array Value} {below : List Frame} {meth : Method} {c : Code} {Q : State → Prop} {D : va_G} {E : Nat → ClassId} {z : Nat} (F : am_F p s m args meth c cX8_passTick 5 RX8 D E z) (t0 : Nat) (y0 : am_ly t0 = (8, 0)) : ∀ (n : Nat) (a1 : Int32) (M : am_M) (x : Unit) (M1 : am_M), g_X8_passTick_L2 t0 n a1 M = some (x, M1) → (am_W p l e rm_X8_passTick s m args below meth c Q 5 D E z 0 0 M1 25 [(0, .ref (z + t0))] []) → am_W p l e rm_X8_passTick s m args below meth c Q 5 D E z 0 0 M 2 [(0, .ref (z + t0)), (1, .int a1)] [] := by
  intro n
  induction n with
  | zero => intro a1 M x M1 h K; cases h
  | succ n ih =>
    intro a1 M x M1 h K
    rw [g_X8_passTick_L2] at h
    refine am_iload_n F 1 dX8_passTick_2 rfl rfl ?_
    refine am_aload_n F 0 dX8_passTick_3 rfl rfl ?_
    refine gf_X8_51 F y0 dX8_passTick_4 ?_
    refine am_icmp_ge F (tgt := 25) dX8_passTick_7 (by decide) (fun c6 => ?_) (fun c6 => ?_)
    · have h := (if_pos c6).symm.trans h
      cases h
      exact am_sub (lv' := [(0, .ref (z + t0))]) [0] rfl (K)
    · have h := (if_neg c6).symm.trans h
      refine am_aload_n F 0 dX8_passTick_10 rfl rfl ?_
      refine am_aload_n F 0 dX8_passTick_11 rfl rfl ?_
      refine am_iload_n F 1 dX8_passTick_12 rfl rfl ?_
      obtain ⟨v3, M2, h1, h⟩ := am_bE h
      refine am_callVr F [.int a1] y0 (by decide) rfl cw_X8_69 (c_X8_robotOf l D E z t0 y0 a1 M v3 M2 h1) yn_X8_robotOf rfl ⟨Nat.le_of_ble_eq_true rfl, Nat.le_of_ble_eq_true rfl⟩ rfl rfl (Nat.le_of_ble_eq_true rfl) ⟨Nat.zero_le _, Nat.zero_le _⟩ dX8_passTick_13 rfl ?_
      obtain ⟨_, M5, h4, h⟩ := am_bE h
      refine am_callVv F [.ref (z + v3)] y0 (by decide) rfl cw_X8_144 (c_X8_act l D E z t0 y0 v3 (q_X8_robotOf t0 y0 a1 M v3 M2 h1) M2 M5 h4) yn_X8_act rfl ⟨Nat.le_of_ble_eq_true rfl, Nat.le_of_ble_eq_true rfl⟩ rfl rfl (Nat.le_of_ble_eq_true rfl) ⟨Nat.zero_le _, Nat.zero_le _⟩ dX8_passTick_16 rfl ?_
      refine am_iinc F [(1, .int (a1 + (1 : Int32))), (0, .ref (z + t0))] 1 dX8_passTick_19 (by decide) rfl rfl rfl ?_
      refine am_goto F (tgt := 2) dX8_passTick_22 (by decide) ?_
      exact am_sub (lv' := [(0, .ref (z + t0)), (1, .int (a1 + (1 : Int32)))]) [1, 0] rfl (ih (a1 + (1 : Int32)) M5 _ _ h K)
def g_X8_passTick_J91 (rc : Int32 → Int32 → am_M → Option ((Int32) × am_M)) (t0 : Nat) (a1 : Int32) (a2 : Int32) (t3 : Nat) (M : am_M) : Option ((Int32) × am_M) := (if (am_g M t3 3) < (0 : Int32) then (rc a1 (a2 + (1 : Int32)) M) else (am_b (g_X8_isIdle t0 a2 M) (fun v18 M17 => (if v18 = (0 : Int32) then (rc a1 (a2 + (1 : Int32)) M17) else (am_b (g_X8_finishTaskOf t0 t3 a2 M17) (fun _ M20 => (rc (a1 + (1 : Int32)) (a2 + (1 : Int32)) M20)))))))
set_option maxHeartbeats 4000000 in
set_option maxRecDepth 100000 in
theorem cj_X8_passTick_J91 {l : Launch} {p : Program} {e : Env} {s : State} {m : MethodId} {args : Array Value} {below : List Frame} {meth : Method} {c : Code} {Q : State → Prop} {D : va_G} {E : Nat → ClassId} {z : Nat} (F : am_F p s m args meth c cX8_passTick 5 RX8 D E z) (rc : Int32 → Int32 → am_M → Option ((Int32) × am_M)) (t0 : Nat) (y0 : am_ly t0 = (8, 0)) (a1 : Int32) (a2 : Int32) (t3 : Nat) (y3 : am_ly t3 = (4, 0)) (M : am_M) (x : Int32) (M1 : am_M) (h : g_X8_passTick_J91 rc t0 a1 a2 t3 M = some (x, M1)) (HR : ∀ (b1 : Int32) (b2 : Int32) (M2 : am_M), rc b1 b2 M2 = some (x, M1) → am_W p l e rm_X8_passTick s m args below meth c Q 5 D E z 0 0 M2 39 [(0, .ref (z + t0)), (1, .int b1), (2, .int b2)] []) (K : am_W p l e rm_X8_passTick s m args below meth c Q 5 D E z 0 0 M1 121 [(1, .int x)] []) : am_W p l e rm_X8_passTick s m args below meth c Q 5 D E z 0 0 M 91 [(0, .ref (z + t0)), (1, .int a1), (2, .int a2), (3, .ref (z + t3))] [] := by
  unfold g_X8_passTick_J91 at h
  refine am_aload_n F 3 dX8_passTick_91 rfl rfl ?_
  refine gf_X8_138 F y3 dX8_passTick_92 ?_
  refine am_if_lt F (tgt := 115) dX8_passTick_95 (by decide) (fun c22 => ?_) (fun c22 => ?_)
  · have h := (if_pos c22).symm.trans h
    refine am_iinc F [(2, .int (a2 + (1 : Int32))), (0, .ref (z + t0)), (1, .int a1), (3, .ref (z + t3))] 2 dX8_passTick_115 (by decide) rfl rfl rfl ?_
    refine am_goto F (tgt := 39) dX8_passTick_118 (by decide) ?_
    exact am_sub (lv' := [(0, .ref (z + t0)), (1, .int a1), (2, .int (a2 + (1 : Int32)))]) [1, 2, 0] rfl (HR a1 (a2 + (1 : Int32)) M h)
  · have h := (if_neg c22).symm.trans h
    refine am_aload_n F 0 dX8_passTick_98 rfl rfl ?_
    refine am_iload_n F 2 dX8_passTick_99 rfl rfl ?_
    obtain ⟨v18, M17, h16, h⟩ := am_bE h
    refine am_callVi F [.int a2] y0 (by decide) rfl cw_X8_151 (c_X8_isIdle l D E z t0 y0 a2 M v18 M17 h16) yn_X8_isIdle rfl ⟨Nat.le_of_ble_eq_true rfl, Nat.le_of_ble_eq_true rfl⟩ rfl rfl (Nat.le_of_ble_eq_true rfl) ⟨Nat.zero_le _, Nat.zero_le _⟩ dX8_passTick_100 rfl ?_
    refine am_if_eq F (tgt := 115) dX8_passTick_103 (by decide) (fun c21 => ?_) (fun c21 => ?_)
    · have h := (if_pos c21).symm.trans h
      refine am_iinc F [(2, .int (a2 + (1 : Int32))), (0, .ref (z + t0)), (1, .int a1), (3, .ref (z + t3))] 2 dX8_passTick_115 (by decide) rfl rfl rfl ?_
      refine am_goto F (tgt := 39) dX8_passTick_118 (by decide) ?_
      exact am_sub (lv' := [(0, .ref (z + t0)), (1, .int a1), (2, .int (a2 + (1 : Int32)))]) [1, 2, 0] rfl (HR a1 (a2 + (1 : Int32)) M17 h)
    · have h := (if_neg c21).symm.trans h
      refine am_aload_n F 0 dX8_passTick_106 rfl rfl ?_
      refine am_aload_n F 3 dX8_passTick_107 rfl rfl ?_
      refine am_iload_n F 2 dX8_passTick_108 rfl rfl ?_
      obtain ⟨_, M20, h19, h⟩ := am_bE h
      refine am_callVv F [.ref (z + t3), .int a2] y0 (by decide) rfl cw_X8_154 (c_X8_finishTaskOf l D E z t0 y0 t3 y3 a2 M17 M20 h19) yn_X8_finishTaskOf rfl ⟨Nat.le_of_ble_eq_true rfl, Nat.le_of_ble_eq_true rfl⟩ rfl rfl (Nat.le_of_ble_eq_true rfl) ⟨Nat.zero_le _, Nat.zero_le _⟩ dX8_passTick_109 rfl ?_
      refine am_iinc F [(1, .int (a1 + (1 : Int32))), (0, .ref (z + t0)), (2, .int a2), (3, .ref (z + t3))] 1 dX8_passTick_112 (by decide) rfl rfl rfl ?_
      refine am_iinc F [(2, .int (a2 + (1 : Int32))), (1, .int (a1 + (1 : Int32))), (0, .ref (z + t0)), (3, .ref (z + t3))] 2 dX8_passTick_115 (by decide) rfl rfl rfl ?_
      refine am_goto F (tgt := 39) dX8_passTick_118 (by decide) ?_
      exact am_sub (lv' := [(0, .ref (z + t0)), (1, .int (a1 + (1 : Int32))), (2, .int (a2 + (1 : Int32)))]) [2, 1, 0] rfl (HR (a1 + (1 : Int32)) (a2 + (1 : Int32)) M20 h)
def g_X8_passTick_L39 (t0 : Nat) : Nat → Int32 → Int32 → am_M → Option ((Int32) × am_M)
  | 0, _, _, _ => none
  | n + 1, a1, a2, M => (if (am_g M t0 2) ≤ a2 then (some (a1, M)) else (am_b (g_X8_robotOf t0 a2 M) (fun v12 M11 => (am_b (g_X2_placeAt (v12 + 1) (am_g M11 t0 4) M11) (fun v15 M14 => (if v15 < (0 : Int32) then (g_X8_passTick_J91 (g_X8_passTick_L39 t0 n) t0 a1 a2 v12 M14) else (am_b (g_X9_at (t0 + 6) 40 v15 M14) (fun v25 M24 => (am_b (g_X9_put (t0 + 6) 40 v15 (v25 + (1 : Int32)) M24) (fun _ M27 => (g_X8_passTick_J91 (g_X8_passTick_L39 t0 n) t0 a1 a2 v12 M27)))))))))))
set_option maxHeartbeats 4000000 in
set_option maxRecDepth 100000 in
theorem cl_X8_passTick_L39 {l : Launch} {p : Program} {e : Env} {s : State} {m : MethodId} {args : Array Value} {below : List Frame} {meth : Method} {c : Code} {Q : State → Prop} {D : va_G} {E : Nat → ClassId} {z : Nat} (F : am_F p s m args meth c cX8_passTick 5 RX8 D E z) (t0 : Nat) (y0 : am_ly t0 = (8, 0)) : ∀ (n : Nat) (a1 : Int32) (a2 : Int32) (M : am_M) (x : Int32) (M1 : am_M), g_X8_passTick_L39 t0 n a1 a2 M = some (x, M1) → (am_W p l e rm_X8_passTick s m args below meth c Q 5 D E z 0 0 M1 121 [(1, .int x)] []) → am_W p l e rm_X8_passTick s m args below meth c Q 5 D E z 0 0 M 39 [(0, .ref (z + t0)), (1, .int a1), (2, .int a2)] [] := by
  intro n
  induction n with
  | zero => intro a1 a2 M x M1 h K; cases h
  | succ n ih =>
    intro a1 a2 M x M1 h K
    rw [g_X8_passTick_L39] at h
    refine am_iload_n F 2 dX8_passTick_39 rfl rfl ?_
    refine am_aload_n F 0 dX8_passTick_40 rfl rfl ?_
    refine gf_X8_51 F y0 dX8_passTick_41 ?_
    refine am_icmp_ge F (tgt := 121) dX8_passTick_44 (by decide) (fun c29 => ?_) (fun c29 => ?_)
    · have h := (if_pos c29).symm.trans h
      cases h
      exact am_sub (lv' := [(1, .int a1)]) [1] rfl (K)
    · have h := (if_neg c29).symm.trans h
      refine am_aload_n F 0 dX8_passTick_47 rfl rfl ?_
      refine am_iload_n F 2 dX8_passTick_48 rfl rfl ?_
      obtain ⟨v12, M11, h10, h⟩ := am_bE h
      refine am_callVr F [.int a2] y0 (by decide) rfl cw_X8_69 (c_X8_robotOf l D E z t0 y0 a2 M v12 M11 h10) yn_X8_robotOf rfl ⟨Nat.le_of_ble_eq_true rfl, Nat.le_of_ble_eq_true rfl⟩ rfl rfl (Nat.le_of_ble_eq_true rfl) ⟨Nat.zero_le _, Nat.zero_le _⟩ dX8_passTick_49 rfl ?_
      refine am_astore_n F [(3, .ref (z + v12)), (0, .ref (z + t0)), (1, .int a1), (2, .int a2)] dX8_passTick_52 rfl (by decide) rfl ?_
      refine am_aload_n F 0 dX8_passTick_53 rfl rfl ?_
      refine gf_X8_83 F (q_X8_robotOf t0 y0 a2 M v12 M11 h10) dX8_passTick_54 ?_
      refine am_aload_n F 1 dX8_passTick_57 rfl rfl ?_
      refine gf_X8_58 F y0 dX8_passTick_58 ?_
      obtain ⟨v15, M14, h13, h⟩ := am_bE h
      refine am_callVi F [.int (am_g M11 t0 4)] (lyf_4_plan (q_X8_robotOf t0 y0 a2 M v12 M11 h10)) (by decide) rfl cw_X8_93 (c_X2_placeAt l D E z (v12 + 1) (lyf_4_plan (q_X8_robotOf t0 y0 a2 M v12 M11 h10)) (am_g M11 t0 4) M11 v15 M14 h13) yn_X2_placeAt rfl ⟨Nat.le_of_ble_eq_true rfl, Nat.le_of_ble_eq_true rfl⟩ rfl rfl (Nat.le_of_ble_eq_true rfl) ⟨Nat.zero_le _, Nat.zero_le _⟩ dX8_passTick_61 rfl ?_
      refine am_istore F [(4, .int v15), (3, .ref (z + v12)), (0, .ref (z + t0)), (1, .int a1), (2, .int a2)] dX8_passTick_64 (by decide) rfl ?_
      refine am_iload F 0 dX8_passTick_66 rfl ?_
      refine am_if_lt F (tgt := 91) dX8_passTick_68 (by decide) (fun c28 => ?_) (fun c28 => ?_)
      · have h := (if_pos c28).symm.trans h
        exact am_sub (lv' := [(0, .ref (z + t0)), (1, .int a1), (2, .int a2), (3, .ref (z + v12))]) [2, 3, 4, 1] rfl (cj_X8_passTick_J91 F (g_X8_passTick_L39 t0 n) t0 y0 a1 a2 v12 (q_X8_robotOf t0 y0 a2 M v12 M11 h10) M14 _ _ h (fun b1 b2 M2 h2 => ih b1 b2 M2 _ _ h2 K) K)
      · have h := (if_neg c28).symm.trans h
        refine am_aload_n F 2 dX8_passTick_71 rfl rfl ?_
        refine gf_X8_18 F y0 dX8_passTick_72 ?_
        refine am_iload F 0 dX8_passTick_75 rfl ?_
        refine am_aload_n F 2 dX8_passTick_77 rfl rfl ?_
        refine gf_X8_18 F y0 dX8_passTick_78 ?_
        refine am_iload F 0 dX8_passTick_81 rfl ?_
        obtain ⟨v25, M24, h23, h⟩ := am_bE h
        refine am_callSNi F [.ref (z + (t0 + 6)), .int v15] cw_X8_147  (c_X9_at l D E z (t0 + 6) 40 (lyf_8_visitCounts y0) v15 M14 v25 M24 h23) yn_X9_at rfl ⟨Nat.le_of_ble_eq_true rfl, Nat.le_of_ble_eq_true rfl⟩ rfl rfl (Nat.le_of_ble_eq_true rfl) ⟨Nat.zero_le _, Nat.zero_le _⟩ dX8_passTick_83 rfl ?_
        refine am_iconst F (v := (1 : Int32)) dX8_passTick_86 (by decide) ?_
        refine am_iadd F dX8_passTick_87 ?_
        obtain ⟨_, M27, h26, h⟩ := am_bE h
        refine am_callSNv F [.ref (z + (t0 + 6)), .int v15, .int (v25 + (1 : Int32))] cw_X8_110  (c_X9_put l D E z (t0 + 6) 40 (lyf_8_visitCounts y0) v15 (v25 + (1 : Int32)) M24 M27 h26) yn_X9_put rfl ⟨Nat.le_of_ble_eq_true rfl, Nat.le_of_ble_eq_true rfl⟩ rfl rfl (Nat.le_of_ble_eq_true rfl) ⟨Nat.zero_le _, Nat.zero_le _⟩ dX8_passTick_88 rfl ?_
        exact am_sub (lv' := [(0, .ref (z + t0)), (1, .int a1), (2, .int a2), (3, .ref (z + v12))]) [2, 3, 4, 1] rfl (cj_X8_passTick_J91 F (g_X8_passTick_L39 t0 n) t0 y0 a1 a2 v12 (q_X8_robotOf t0 y0 a2 M v12 M11 h10) M27 _ _ h (fun b1 b2 M2 h2 => ih b1 b2 M2 _ _ h2 K) K)
def g_X8_passTick (t0 : Nat) (M : am_M) : Option (Int32 × am_M) := (am_b (g_X8_passTick_L2 t0 am_fu (0 : Int32) M) (fun x7 M8 => (am_b (g_X8_passTick_L39 t0 am_fu (0 : Int32) (0 : Int32) (am_s M8 t0 4 ((am_g M8 t0 4) + (1 : Int32)))) (fun x30 M31 => (some (x30, M31))))))
set_option maxHeartbeats 4000000 in
set_option maxRecDepth 100000 in
theorem c_X8_passTick (l : Launch) (D : va_G) (E : Nat → ClassId) (z : Nat) (t0 : Nat) (y0 : am_ly t0 = (8, 0)) (M : am_M) (r0 : Int32) (M1 : am_M) (h : g_X8_passTick t0 M = some (r0, M1)) : am_Mi l yX8_passTick cX8_passTick 5 (some .int) rm_X8_passTick D E z [.ref (z + t0)] M r0 M1 := by
  unfold g_X8_passTick at h
  refine am_of (own := RX8) (by decide +kernel) rfl (by exact Nat.le_of_ble_eq_true rfl) ?_
  intro p e s m args below meth c F hr
  show am_W p l e rm_X8_passTick s m args below meth c _ 5 D E z 0 0 M 0 [(0, .ref (z + t0))] []
  refine am_iconst F (v := (0 : Int32)) dX8_passTick_0 (by decide) ?_
  refine am_istore_n F [(1, .int (0 : Int32)), (0, .ref (z + t0))] dX8_passTick_1 rfl (by decide) rfl ?_
  obtain ⟨x7, M8, h9, h⟩ := am_bE h
  refine am_sub (lv' := [(0, .ref (z + t0)), (1, .int (0 : Int32))]) [1, 0] rfl (cl_X8_passTick_L2 F t0 y0 am_fu (0 : Int32) M x7 M8 h9 ?_)
  refine am_aload_n F 0 dX8_passTick_25 rfl rfl ?_
  refine am_dup F dX8_passTick_26 rfl ?_
  refine gf_X8_58 F y0 dX8_passTick_27 ?_
  refine am_iconst F (v := (1 : Int32)) dX8_passTick_30 (by decide) ?_
  refine am_iadd F dX8_passTick_31 ?_
  refine pf_X8_58 F y0 dX8_passTick_32 ?_
  refine am_iconst F (v := (0 : Int32)) dX8_passTick_35 (by decide) ?_
  refine am_istore_n F [(1, .int (0 : Int32)), (0, .ref (z + t0))] dX8_passTick_36 rfl (by decide) rfl ?_
  refine am_iconst F (v := (0 : Int32)) dX8_passTick_37 (by decide) ?_
  refine am_istore_n F [(2, .int (0 : Int32)), (1, .int (0 : Int32)), (0, .ref (z + t0))] dX8_passTick_38 rfl (by decide) rfl ?_
  obtain ⟨x30, M31, h32, h⟩ := am_bE h
  refine am_sub (lv' := [(0, .ref (z + t0)), (1, .int (0 : Int32)), (2, .int (0 : Int32))]) [2, 1, 0] rfl (cl_X8_passTick_L39 F t0 y0 am_fu (0 : Int32) (0 : Int32) (am_s M8 t0 4 ((am_g M8 t0 4) + (1 : Int32))) x30 M31 h32 ?_)
  refine am_iload_n F 0 dX8_passTick_121 rfl rfl ?_
  exact am_iret F hr h dX8_passTick_122
/-! AisleScheduler.clear()I -/
abbrev rm_X9_clear : Room := { frames := 4, cells := 0, slots := 0, locals := 88 }
theorem yn_X9_clear : am_yn yX9_clear 0 := ⟨⟨by decide +kernel, by decide +kernel⟩, by decide +kernel⟩
def g_X9_clear  (M : am_M) : Option (Int32 × am_M) := (am_b (g_X8_empty 1 M) (fun _ M2 => (some ((am_g M 1 2), M2))))
set_option maxHeartbeats 4000000 in
set_option maxRecDepth 100000 in
theorem c_X9_clear (l : Launch) (D : va_G) (E : Nat → ClassId) (z : Nat)  (M : am_M) (r0 : Int32) (M1 : am_M) (h : g_X9_clear  M = some (r0, M1)) : am_Mi l yX9_clear cX9_clear 2 (some .int) rm_X9_clear D E z [.ref (z + 0)] M r0 M1 := by
  unfold g_X9_clear at h
  refine am_of (own := RX9) (by decide +kernel) rfl (by exact Nat.le_of_ble_eq_true rfl) ?_
  intro p e s m args below meth c F hr
  show am_W p l e rm_X9_clear s m args below meth c _ 2 D E z 0 0 M 0 [(0, .ref (z + 0))] []
  refine am_aload_n F 0 dX9_clear_0 rfl rfl ?_
  refine gf_X9_12 F lyk_0 dX9_clear_1 ?_
  refine gf_X9_53 F lyk_1 dX9_clear_4 ?_
  refine am_istore_n F [(1, .int (am_g M 1 2)), (0, .ref (z + 0))] dX9_clear_7 rfl (by decide) rfl ?_
  refine am_aload_n F 1 dX9_clear_8 rfl rfl ?_
  refine gf_X9_12 F lyk_0 dX9_clear_9 ?_
  obtain ⟨_, M2, h1, h⟩ := am_bE h
  refine am_callVv F [] lyk_1 (by decide) rfl cw_X9_56 (c_X8_empty l D E z 1 lyk_1 M M2 h1) yn_X8_empty rfl ⟨Nat.le_of_ble_eq_true rfl, Nat.le_of_ble_eq_true rfl⟩ rfl rfl (Nat.le_of_ble_eq_true rfl) ⟨Nat.zero_le _, Nat.zero_le _⟩ dX9_clear_12 rfl ?_
  refine am_iload_n F 0 dX9_clear_15 rfl rfl ?_
  exact am_iret F hr h dX9_clear_16
/-! AisleScheduler.assignAll()I -/
abbrev rm_X9_assignAll : Room := { frames := 8, cells := 0, slots := 0, locals := 207 }
theorem yn_X9_assignAll : am_yn yX9_assignAll 0 := ⟨⟨by decide +kernel, by decide +kernel⟩, by decide +kernel⟩
def g_X9_assignAll  (M : am_M) : Option (Int32 × am_M) := (am_b (g_X3_assignOpenTasks  M) (fun v3 M2 => (some (v3, M2))))
set_option maxHeartbeats 4000000 in
set_option maxRecDepth 100000 in
theorem c_X9_assignAll (l : Launch) (D : va_G) (E : Nat → ClassId) (z : Nat)  (M : am_M) (r0 : Int32) (M1 : am_M) (h : g_X9_assignAll  M = some (r0, M1)) : am_Mi l yX9_assignAll cX9_assignAll 1 (some .int) rm_X9_assignAll D E z [.ref (z + 0)] M r0 M1 := by
  unfold g_X9_assignAll at h
  refine am_of (own := RX9) (by decide +kernel) rfl (by exact Nat.le_of_ble_eq_true rfl) ?_
  intro p e s m args below meth c F hr
  show am_W p l e rm_X9_assignAll s m args below meth c _ 1 D E z 0 0 M 0 [(0, .ref (z + 0))] []
  refine am_aload_n F 0 dX9_assignAll_0 rfl rfl ?_
  refine gf_X9_27 F lyk_0 dX9_assignAll_1 ?_
  obtain ⟨v3, M2, h1, h⟩ := am_bE h
  refine am_callVi F [] lyk_157 (by decide) rfl cw_X9_291 (c_X3_assignOpenTasks l D E z  M v3 M2 h1) yn_X3_assignOpenTasks rfl ⟨Nat.le_of_ble_eq_true rfl, Nat.le_of_ble_eq_true rfl⟩ rfl rfl (Nat.le_of_ble_eq_true rfl) ⟨Nat.zero_le _, Nat.zero_le _⟩ dX9_assignAll_4 rfl ?_
  exact am_iret F hr h dX9_assignAll_7
/-! AisleScheduler.bitsOf(F)I -/
abbrev rm_X9_bitsOf : Room := { frames := 1, cells := 0, slots := 0, locals := 24 }
theorem yn_X9_bitsOf : am_yn yX9_bitsOf 1 := ⟨⟨by decide +kernel, by decide +kernel⟩, by decide +kernel⟩
def g_X9_bitsOf_L13  : Nat → UInt32 → Int32 → am_M → Option ((UInt32 × Int32) × am_M)
  | 0, _, _, _ => none
  | n + 1, a1, a2, M => (if (0 : Int32) ≤ (Op.cmpValue (FP.fcmp a1 FP.fconst1) .g) then (some ((a1, a2), M)) else (if a2 ≤ (1 : Int32) then (some ((a1, a2), M)) else (am_c ((FP.fmul a1 FP.fconst2) &&& 0x7fffffff ≤ 0x7f800000) (g_X9_bitsOf_L13  n (FP.fmul a1 FP.fconst2) (a2 + (-1 : Int32)) M))))
set_option maxHeartbeats 4000000 in
set_option maxRecDepth 100000 in
theorem cl_X9_bitsOf_L13 {l : Launch} {p : Program} {e : Env} {s : State} {m : MethodId} {args : Array Value} {below : List Frame} {meth : Method} {c : Code} {Q : State → Prop} {D : va_G} {E : Nat → ClassId} {z : Nat} (F : am_F p s m args meth c cX9_bitsOf 3 RX9 D E z)  : ∀ (n : Nat) (a1 : UInt32) (a2 : Int32) (M : am_M) (x : UInt32 × Int32) (M1 : am_M), g_X9_bitsOf_L13  n a1 a2 M = some (x, M1) → (am_W p l e rm_X9_bitsOf s m args below meth c Q 3 D E z 0 0 M1 34 [(1, .float x.1), (2, .int x.2)] []) → am_W p l e rm_X9_bitsOf s m args below meth c Q 3 D E z 0 0 M 13 [(1, .float a1), (2, .int a2)] [] := by
  intro n
  induction n with
  | zero => intro a1 a2 M x M1 h K; cases h
  | succ n ih =>
    intro a1 a2 M x M1 h K
    rw [g_X9_bitsOf_L13] at h
    refine am_fload_n F 0 dX9_bitsOf_13 rfl rfl ?_
    refine am_fconst1 F dX9_bitsOf_14 ?_
    refine am_fcmp F dX9_bitsOf_15 ?_
    refine am_if_ge F (tgt := 34) dX9_bitsOf_16 (by decide) (fun c3 => ?_) (fun c3 => ?_)
    · have h := (if_pos c3).symm.trans h
      cases h
      exact am_sub (lv' := [(1, .float a1), (2, .int a2)]) [0, 1] rfl (K)
    · have h := (if_neg c3).symm.trans h
      refine am_iload_n F 1 dX9_bitsOf_19 rfl rfl ?_
      refine am_iconst F (v := (1 : Int32)) dX9_bitsOf_20 (by decide) ?_
      refine am_icmp_le F (tgt := 34) dX9_bitsOf_21 (by decide) (fun c2 => ?_) (fun c2 => ?_)
      · have h := (if_pos c2).symm.trans h
        cases h
        exact am_sub (lv' := [(1, .float a1), (2, .int a2)]) [0, 1] rfl (K)
      · have h := (if_neg c2).symm.trans h
        refine am_fload_n F 0 dX9_bitsOf_24 rfl rfl ?_
        refine am_fconst2 F dX9_bitsOf_25 ?_
        obtain ⟨q1, h⟩ := am_cE h
        refine am_fmul F dX9_bitsOf_26 q1 ?_
        refine am_fstore_n F [(1, .float (FP.fmul a1 FP.fconst2)), (2, .int a2)] dX9_bitsOf_27 rfl (by decide) rfl ?_
        refine am_iinc F [(2, .int (a2 + (-1 : Int32))), (1, .float (FP.fmul a1 FP.fconst2))] 1 dX9_bitsOf_28 (by decide) rfl rfl rfl ?_
        refine am_goto F (tgt := 13) dX9_bitsOf_31 (by decide) ?_
        exact am_sub (lv' := [(1, .float (FP.fmul a1 FP.fconst2)), (2, .int (a2 + (-1 : Int32)))]) [1, 0] rfl (ih (FP.fmul a1 FP.fconst2) (a2 + (-1 : Int32)) M _ _ h K)
def g_X9_bitsOf (a0 : UInt32) (M : am_M) : Option (Int32 × am_M) := (if (0 : Int32) < (Op.cmpValue (FP.fcmp a0 FP.fconst0) .l) then (am_b (g_X9_bitsOf_L13  am_fu a0 (127 : Int32) M) (fun x4 M5 => (am_c ((FP.fmul x4.1 (1258291200 : UInt32)) &&& 0x7fffffff ≤ 0x7f800000) (some (((x4.2 <<< ((23 : Int32) &&& 31)) ||| ((FP.f2i (FP.fmul x4.1 (1258291200 : UInt32))) &&& (8388607 : Int32))), M5))))) else (some ((0 : Int32), M)))
set_option maxHeartbeats 4000000 in
set_option maxRecDepth 100000 in
theorem c_X9_bitsOf (l : Launch) (D : va_G) (E : Nat → ClassId) (z : Nat) (a0 : UInt32) (M : am_M) (r0 : Int32) (M1 : am_M) (h : g_X9_bitsOf a0 M = some (r0, M1)) : am_Mi l yX9_bitsOf cX9_bitsOf 3 (some .int) rm_X9_bitsOf D E z [.float a0] M r0 M1 := by
  unfold g_X9_bitsOf at h
  refine am_of (own := RX9) (by decide +kernel) rfl (by exact Nat.le_of_ble_eq_true rfl) ?_
  intro p e s m args below meth c F hr
  show am_W p l e rm_X9_bitsOf s m args below meth c _ 3 D E z 0 0 M 0 [(0, .float a0)] []
  refine am_fload_n F 0 dX9_bitsOf_0 rfl rfl ?_
  refine am_fconst0 F dX9_bitsOf_1 ?_
  refine am_fcmp F dX9_bitsOf_2 ?_
  refine am_if_gt F (tgt := 8) dX9_bitsOf_3 (by decide) (fun c8 => ?_) (fun c8 => ?_)
  · have h := (if_pos c8).symm.trans h
    refine am_fload_n F 0 dX9_bitsOf_8 rfl rfl ?_
    refine am_fstore_n F [(1, .float a0), (0, .float a0)] dX9_bitsOf_9 rfl (by decide) rfl ?_
    refine am_bipush F (v := (127 : Int32)) dX9_bitsOf_10 (by decide) ?_
    refine am_istore_n F [(2, .int (127 : Int32)), (1, .float a0), (0, .float a0)] dX9_bitsOf_12 rfl (by decide) rfl ?_
    obtain ⟨x4, M5, h6, h⟩ := am_bE h
    refine am_sub (lv' := [(1, .float a0), (2, .int (127 : Int32))]) [1, 0] rfl (cl_X9_bitsOf_L13 F  am_fu a0 (127 : Int32) M x4 M5 h6 ?_)
    refine am_iload_n F 1 dX9_bitsOf_34 rfl rfl ?_
    refine am_bipush F (v := (23 : Int32)) dX9_bitsOf_35 (by decide) ?_
    refine am_ishl F dX9_bitsOf_37 ?_
    refine am_fload_n F 0 dX9_bitsOf_38 rfl rfl ?_
    refine am_ldcfw F (v := (1258291200 : UInt32)) dX9_bitsOf_39 wd_1165 ?_
    obtain ⟨q7, h⟩ := am_cE h
    refine am_fmul F dX9_bitsOf_42 q7 ?_
    refine am_f2i F dX9_bitsOf_43 ?_
    refine am_ldcw F (v := (8388607 : Int32)) dX9_bitsOf_44 wd_1166 ?_
    refine am_iand F dX9_bitsOf_47 ?_
    refine am_ior F dX9_bitsOf_48 ?_
    exact am_iret F hr h dX9_bitsOf_49
  · have h := (if_neg c8).symm.trans h
    refine am_iconst F (v := (0 : Int32)) dX9_bitsOf_6 (by decide) ?_
    exact am_iret F hr h dX9_bitsOf_7
/-! AisleScheduler.busiestCell()I -/
abbrev rm_X9_busiestCell : Room := { frames := 2, cells := 0, slots := 0, locals := 45 }
theorem yn_X9_busiestCell : am_yn yX9_busiestCell 0 := ⟨⟨by decide +kernel, by decide +kernel⟩, by decide +kernel⟩
def g_X9_busiestCell_L4  : Nat → Int32 → Int32 → am_M → Option ((Int32) × am_M)
  | 0, _, _, _ => none
  | n + 1, a1, a2, M => (if (40 : Int32) ≤ a2 then (some (a1, M)) else (am_b (g_X9_at (1 + 6) 40 a2 M) (fun v3 M2 => (am_b (g_X9_at (1 + 6) 40 a1 M2) (fun v6 M5 => (if v3 ≤ v6 then (g_X9_busiestCell_L4  n a1 (a2 + (1 : Int32)) M5) else (g_X9_busiestCell_L4  n a2 (a2 + (1 : Int32)) M5)))))))
set_option maxHeartbeats 4000000 in
set_option maxRecDepth 100000 in
theorem cl_X9_busiestCell_L4 {l : Launch} {p : Program} {e : Env} {s : State} {m : MethodId} {args : Array Value} {below : List Frame} {meth : Method} {c : Code} {Q : State → Prop} {D : va_G} {E : Nat → ClassId} {z : Nat} (F : am_F p s m args meth c cX9_busiestCell 3 RX9 D E z)  : ∀ (n : Nat) (a1 : Int32) (a2 : Int32) (M : am_M) (x : Int32) (M1 : am_M), g_X9_busiestCell_L4  n a1 a2 M = some (x, M1) → (am_W p l e rm_X9_busiestCell s m args below meth c Q 3 D E z 0 0 M1 43 [(1, .int x)] []) → am_W p l e rm_X9_busiestCell s m args below meth c Q 3 D E z 0 0 M 4 [(0, .ref (z + 0)), (1, .int a1), (2, .int a2)] [] := by
  intro n
  induction n with
  | zero => intro a1 a2 M x M1 h K; cases h
  | succ n ih =>
    intro a1 a2 M x M1 h K
    rw [g_X9_busiestCell_L4] at h
    refine am_iload_n F 2 dX9_busiestCell_4 rfl rfl ?_
    refine am_bipush F (v := (40 : Int32)) dX9_busiestCell_5 (by decide) ?_
    refine am_icmp_ge F (tgt := 43) dX9_busiestCell_7 (by decide) (fun c8 => ?_) (fun c8 => ?_)
    · have h := (if_pos c8).symm.trans h
      cases h
      exact am_sub (lv' := [(1, .int a1)]) [1] rfl (K)
    · have h := (if_neg c8).symm.trans h
      refine am_aload_n F 0 dX9_busiestCell_10 rfl rfl ?_
      refine gf_X9_12 F lyk_0 dX9_busiestCell_11 ?_
      refine gf_X9_323 F lyk_1 dX9_busiestCell_14 ?_
      refine am_iload_n F 2 dX9_busiestCell_17 rfl rfl ?_
      obtain ⟨v3, M2, h1, h⟩ := am_bE h
      refine am_callSi F [.ref (z + (1 + 6)), .int a2] cw_X9_69 rfl (c_X9_at l D E z (1 + 6) 40 (lyf_8_visitCounts lyk_1) a2 M v3 M2 h1) yn_X9_at rfl ⟨Nat.le_of_ble_eq_true rfl, Nat.le_of_ble_eq_true rfl⟩ rfl rfl (Nat.le_of_ble_eq_true rfl) ⟨Nat.zero_le _, Nat.zero_le _⟩ dX9_busiestCell_18 rfl ?_
      refine am_aload_n F 0 dX9_busiestCell_21 rfl rfl ?_
      refine gf_X9_12 F lyk_0 dX9_busiestCell_22 ?_
      refine gf_X9_323 F lyk_1 dX9_busiestCell_25 ?_
      refine am_iload_n F 1 dX9_busiestCell_28 rfl rfl ?_
      obtain ⟨v6, M5, h4, h⟩ := am_bE h
      refine am_callSi F [.ref (z + (1 + 6)), .int a1] cw_X9_69 rfl (c_X9_at l D E z (1 + 6) 40 (lyf_8_visitCounts lyk_1) a1 M2 v6 M5 h4) yn_X9_at rfl ⟨Nat.le_of_ble_eq_true rfl, Nat.le_of_ble_eq_true rfl⟩ rfl rfl (Nat.le_of_ble_eq_true rfl) ⟨Nat.zero_le _, Nat.zero_le _⟩ dX9_busiestCell_29 rfl ?_
      refine am_icmp_le F (tgt := 37) dX9_busiestCell_32 (by decide) (fun c7 => ?_) (fun c7 => ?_)
      · have h := (if_pos c7).symm.trans h
        refine am_iinc F [(2, .int (a2 + (1 : Int32))), (0, .ref (z + 0)), (1, .int a1)] 2 dX9_busiestCell_37 (by decide) rfl rfl rfl ?_
        refine am_goto F (tgt := 4) dX9_busiestCell_40 (by decide) ?_
        exact am_sub (lv' := [(0, .ref (z + 0)), (1, .int a1), (2, .int (a2 + (1 : Int32)))]) [1, 2, 0] rfl (ih a1 (a2 + (1 : Int32)) M5 _ _ h K)
      · have h := (if_neg c7).symm.trans h
        refine am_iload_n F 2 dX9_busiestCell_35 rfl rfl ?_
        refine am_istore_n F [(1, .int a2), (0, .ref (z + 0)), (2, .int a2)] dX9_busiestCell_36 rfl (by decide) rfl ?_
        refine am_iinc F [(2, .int (a2 + (1 : Int32))), (1, .int a2), (0, .ref (z + 0))] 2 dX9_busiestCell_37 (by decide) rfl rfl rfl ?_
        refine am_goto F (tgt := 4) dX9_busiestCell_40 (by decide) ?_
        exact am_sub (lv' := [(0, .ref (z + 0)), (1, .int a2), (2, .int (a2 + (1 : Int32)))]) [2, 1, 0] rfl (ih a2 (a2 + (1 : Int32)) M5 _ _ h K)
def g_X9_busiestCell  (M : am_M) : Option (Int32 × am_M) := (am_b (g_X9_busiestCell_L4  am_fu (0 : Int32) (1 : Int32) M) (fun x9 M10 => (some (x9, M10))))
set_option maxHeartbeats 4000000 in
set_option maxRecDepth 100000 in
theorem c_X9_busiestCell (l : Launch) (D : va_G) (E : Nat → ClassId) (z : Nat)  (M : am_M) (r0 : Int32) (M1 : am_M) (h : g_X9_busiestCell  M = some (r0, M1)) : am_Mi l yX9_busiestCell cX9_busiestCell 3 (some .int) rm_X9_busiestCell D E z [.ref (z + 0)] M r0 M1 := by
  unfold g_X9_busiestCell at h
  refine am_of (own := RX9) (by decide +kernel) rfl (by exact Nat.le_of_ble_eq_true rfl) ?_
  intro p e s m args below meth c F hr
  show am_W p l e rm_X9_busiestCell s m args below meth c _ 3 D E z 0 0 M 0 [(0, .ref (z + 0))] []
  refine am_iconst F (v := (0 : Int32)) dX9_busiestCell_0 (by decide) ?_
  refine am_istore_n F [(1, .int (0 : Int32)), (0, .ref (z + 0))] dX9_busiestCell_1 rfl (by decide) rfl ?_
  refine am_iconst F (v := (1 : Int32)) dX9_busiestCell_2 (by decide) ?_
  refine am_istore_n F [(2, .int (1 : Int32)), (1, .int (0 : Int32)), (0, .ref (z + 0))] dX9_busiestCell_3 rfl (by decide) rfl ?_
  obtain ⟨x9, M10, h11, h⟩ := am_bE h
  refine am_sub (lv' := [(0, .ref (z + 0)), (1, .int (0 : Int32)), (2, .int (1 : Int32))]) [2, 1, 0] rfl (cl_X9_busiestCell_L4 F  am_fu (0 : Int32) (1 : Int32) M x9 M10 h11 ?_)
  refine am_iload_n F 0 dX9_busiestCell_43 rfl rfl ?_
  exact am_iret F hr h dX9_busiestCell_44
/-! AisleScheduler.doEntries()Z -/
abbrev rm_X9_doEntries : Room := { frames := 6, cells := 0, slots := 0, locals := 136 }
theorem yn_X9_doEntries : am_yn yX9_doEntries 0 := ⟨⟨by decide +kernel, by decide +kernel⟩, by decide +kernel⟩
def g_X9_doEntries_L13  : Nat → Int32 → am_M → Option ((Nat) × am_M)
  | 0, _, _ => none
  | n + 1, a1, M => (if (am_g M 169 1) ≤ a1 then (some (88, M)) else (am_b (g_X9_at 171 14 a1 M) (fun v5 M4 => (am_b (g_X9_at 170 14 a1 M4) (fun v8 M7 => (am_b (g_X9_at 172 14 a1 M7) (fun v11 M10 => (am_b (g_X8_follow 1 v8 v5 v11 M10) (fun v14 M13 => (if v14 = (0 : Int32) then (g_X9_doEntries_L13  n (a1 + (1 : Int32)) M13) else (some (69, M13))))))))))))
set_option maxHeartbeats 4000000 in
set_option maxRecDepth 100000 in
theorem cl_X9_doEntries_L13 {l : Launch} {p : Program} {e : Env} {s : State} {m : MethodId} {args : Array Value} {below : List Frame} {meth : Method} {c : Code} {Q : State → Prop} {D : va_G} {E : Nat → ClassId} {z : Nat} (F : am_F p s m args meth c cX9_doEntries 3 RX9 D E z)  : ∀ (n : Nat) (a1 : Int32) (M : am_M) (x : Nat) (M1 : am_M), g_X9_doEntries_L13  n a1 M = some (x, M1) → ((x = 69 → am_W p l e rm_X9_doEntries s m args below meth c Q 3 D E z 0 0 M1 69 [(0, .ref (z + 0))] []) ∧ (x = 88 → am_W p l e rm_X9_doEntries s m args below meth c Q 3 D E z 0 0 M1 88 [] [])) → am_W p l e rm_X9_doEntries s m args below meth c Q 3 D E z 0 0 M 13 [(0, .ref (z + 0)), (1, .int a1)] [] := by
  intro n
  induction n with
  | zero => intro a1 M x M1 h K; cases h
  | succ n ih =>
    intro a1 M x M1 h K
    rw [g_X9_doEntries_L13] at h
    refine am_iload_n F 1 dX9_doEntries_13 rfl rfl ?_
    refine am_aload_n F 0 dX9_doEntries_14 rfl rfl ?_
    refine gf_X9_41 F lyk_0 dX9_doEntries_15 ?_
    refine gf_X9_372 F lyk_169 dX9_doEntries_18 ?_
    refine am_icmp_ge F (tgt := 88) dX9_doEntries_21 (by decide) (fun c16 => ?_) (fun c16 => ?_)
    · have h := (if_pos c16).symm.trans h
      cases h
      exact am_sub (lv' := []) [] rfl (K.2 rfl)
    · have h := (if_neg c16).symm.trans h
      refine am_aload_n F 0 dX9_doEntries_24 rfl rfl ?_
      refine gf_X9_41 F lyk_0 dX9_doEntries_25 ?_
      refine gf_X9_382 F lyk_169 dX9_doEntries_28 ?_
      refine am_iload_n F 1 dX9_doEntries_31 rfl rfl ?_
      obtain ⟨v5, M4, h3, h⟩ := am_bE h
      refine am_callSi F [.ref (z + 171), .int a1] cw_X9_69 rfl (c_X9_at l D E z 171 14 lyk_171 a1 M v5 M4 h3) yn_X9_at rfl ⟨Nat.le_of_ble_eq_true rfl, Nat.le_of_ble_eq_true rfl⟩ rfl rfl (Nat.le_of_ble_eq_true rfl) ⟨Nat.zero_le _, Nat.zero_le _⟩ dX9_doEntries_32 rfl ?_
      refine am_istore_n F [(2, .int v5), (0, .ref (z + 0)), (1, .int a1)] dX9_doEntries_35 rfl (by decide) rfl ?_
      refine am_aload_n F 1 dX9_doEntries_36 rfl rfl ?_
      refine gf_X9_12 F lyk_0 dX9_doEntries_37 ?_
      refine am_aload_n F 1 dX9_doEntries_40 rfl rfl ?_
      refine gf_X9_41 F lyk_0 dX9_doEntries_41 ?_
      refine gf_X9_385 F lyk_169 dX9_doEntries_44 ?_
      refine am_iload_n F 2 dX9_doEntries_47 rfl rfl ?_
      obtain ⟨v8, M7, h6, h⟩ := am_bE h
      refine am_callSi F [.ref (z + 170), .int a1] cw_X9_69 rfl (c_X9_at l D E z 170 14 lyk_170 a1 M4 v8 M7 h6) yn_X9_at rfl ⟨Nat.le_of_ble_eq_true rfl, Nat.le_of_ble_eq_true rfl⟩ rfl rfl (Nat.le_of_ble_eq_true rfl) ⟨Nat.zero_le _, Nat.zero_le _⟩ dX9_doEntries_48 rfl ?_
      refine am_iload_n F 0 dX9_doEntries_51 rfl rfl ?_
      refine am_aload_n F 1 dX9_doEntries_52 rfl rfl ?_
      refine gf_X9_41 F lyk_0 dX9_doEntries_53 ?_
      refine gf_X9_388 F lyk_169 dX9_doEntries_56 ?_
      refine am_iload_n F 2 dX9_doEntries_59 rfl rfl ?_
      obtain ⟨v11, M10, h9, h⟩ := am_bE h
      refine am_callSi F [.ref (z + 172), .int a1] cw_X9_69 rfl (c_X9_at l D E z 172 14 lyk_172 a1 M7 v11 M10 h9) yn_X9_at rfl ⟨Nat.le_of_ble_eq_true rfl, Nat.le_of_ble_eq_true rfl⟩ rfl rfl (Nat.le_of_ble_eq_true rfl) ⟨Nat.zero_le _, Nat.zero_le _⟩ dX9_doEntries_60 rfl ?_
      obtain ⟨v14, M13, h12, h⟩ := am_bE h
      refine am_callVi F [.int v8, .int v5, .int v11] lyk_1 (by decide) rfl cw_X9_391 (c_X8_follow l D E z 1 lyk_1 v8 v5 v11 M10 v14 M13 h12) yn_X8_follow rfl ⟨Nat.le_of_ble_eq_true rfl, Nat.le_of_ble_eq_true rfl⟩ rfl rfl (Nat.le_of_ble_eq_true rfl) ⟨Nat.zero_le _, Nat.zero_le _⟩ dX9_doEntries_63 rfl ?_
      refine am_if_eq F (tgt := 82) dX9_doEntries_66 (by decide) (fun c15 => ?_) (fun c15 => ?_)
      · have h := (if_pos c15).symm.trans h
        refine am_iinc F [(1, .int (a1 + (1 : Int32))), (2, .int v5), (0, .ref (z + 0))] 2 dX9_doEntries_82 (by decide) rfl rfl rfl ?_
        refine am_goto F (tgt := 13) dX9_doEntries_85 (by decide) ?_
        exact am_sub (lv' := [(0, .ref (z + 0)), (1, .int (a1 + (1 : Int32)))]) [2, 0] rfl (ih (a1 + (1 : Int32)) M13 _ _ h K)
      · have h := (if_neg c15).symm.trans h
        cases h
        exact am_sub (lv' := [(0, .ref (z + 0))]) [1] rfl (K.1 rfl)
def g_X9_doEntries  (M : am_M) : Option (Int32 × am_M) := (am_b (g_X8_copyFrom 105 1 M) (fun _ M2 => (am_b (g_X9_doEntries_L13  am_fu (0 : Int32) M2) (fun x17 M18 => (if x17 = 69 then (am_b (g_X8_copyFrom 1 105 M18) (fun _ M22 => (some ((0 : Int32), M22)))) else (some ((1 : Int32), M18)))))))
set_option maxHeartbeats 4000000 in
set_option maxRecDepth 100000 in
theorem c_X9_doEntries (l : Launch) (D : va_G) (E : Nat → ClassId) (z : Nat)  (M : am_M) (r0 : Int32) (M1 : am_M) (h : g_X9_doEntries  M = some (r0, M1)) : am_Mi l yX9_doEntries cX9_doEntries 3 (some .boolean) rm_X9_doEntries D E z [.ref (z + 0)] M r0 M1 := by
  unfold g_X9_doEntries at h
  refine am_of (own := RX9) (by decide +kernel) rfl (by exact Nat.le_of_ble_eq_true rfl) ?_
  intro p e s m args below meth c F hr
  show am_W p l e rm_X9_doEntries s m args below meth c _ 3 D E z 0 0 M 0 [(0, .ref (z + 0))] []
  refine am_aload_n F 0 dX9_doEntries_0 rfl rfl ?_
  refine gf_X9_19 F lyk_0 dX9_doEntries_1 ?_
  refine am_aload_n F 0 dX9_doEntries_4 rfl rfl ?_
  refine gf_X9_12 F lyk_0 dX9_doEntries_5 ?_
  obtain ⟨_, M2, h1, h⟩ := am_bE h
  refine am_callVv F [.ref (z + 1)] lyk_105 (by decide) rfl cw_X9_377 (c_X8_copyFrom l D E z 105 lyk_105 1 lyk_1 M M2 h1) yn_X8_copyFrom rfl ⟨Nat.le_of_ble_eq_true rfl, Nat.le_of_ble_eq_true rfl⟩ rfl rfl (Nat.le_of_ble_eq_true rfl) ⟨Nat.zero_le _, Nat.zero_le _⟩ dX9_doEntries_8 rfl ?_
  refine am_iconst F (v := (0 : Int32)) dX9_doEntries_11 (by decide) ?_
  refine am_istore_n F [(1, .int (0 : Int32)), (0, .ref (z + 0))] dX9_doEntries_12 rfl (by decide) rfl ?_
  obtain ⟨x17, M18, h19, h⟩ := am_bE h
  refine am_sub (lv' := [(0, .ref (z + 0)), (1, .int (0 : Int32))]) [1, 0] rfl (cl_X9_doEntries_L13 F  am_fu (0 : Int32) M2 x17 M18 h19 ⟨fun c20 => ?_, fun c20 => ?_⟩)
  · have h := (if_pos c20).symm.trans h
    refine am_aload_n F 0 dX9_doEntries_69 rfl rfl ?_
    refine gf_X9_12 F lyk_0 dX9_doEntries_70 ?_
    refine am_aload_n F 0 dX9_doEntries_73 rfl rfl ?_
    refine gf_X9_19 F lyk_0 dX9_doEntries_74 ?_
    obtain ⟨_, M22, h21, h⟩ := am_bE h
    refine am_callVv F [.ref (z + 105)] lyk_1 (by decide) rfl cw_X9_377 (c_X8_copyFrom l D E z 1 lyk_1 105 lyk_105 M18 M22 h21) yn_X8_copyFrom rfl ⟨Nat.le_of_ble_eq_true rfl, Nat.le_of_ble_eq_true rfl⟩ rfl rfl (Nat.le_of_ble_eq_true rfl) ⟨Nat.zero_le _, Nat.zero_le _⟩ dX9_doEntries_77 rfl ?_
    refine am_iconst F (v := (0 : Int32)) dX9_doEntries_80 (by decide) ?_
    exact am_zret F hr (by decide) h dX9_doEntries_81
  · have h := (if_neg (by rw [c20]; decide)).symm.trans h
    refine am_iconst F (v := (1 : Int32)) dX9_doEntries_88 (by decide) ?_
    exact am_zret F hr (by decide) h dX9_doEntries_89
/-! AisleScheduler.save()I -/
abbrev rm_X9_save : Room := { frames := 5, cells := 0, slots := 0, locals := 110 }
theorem yn_X9_save : am_yn yX9_save 0 := ⟨⟨by decide +kernel, by decide +kernel⟩, by decide +kernel⟩
def g_X9_save  (M : am_M) : Option (Int32 × am_M) := (am_b (g_X8_copyFrom 53 1 M) (fun _ M2 => (some ((am_g (am_s M2 0 6 (1 : Int32)) 1 4), (am_s M2 0 6 (1 : Int32))))))
set_option maxHeartbeats 4000000 in
set_option maxRecDepth 100000 in
theorem c_X9_save (l : Launch) (D : va_G) (E : Nat → ClassId) (z : Nat)  (M : am_M) (r0 : Int32) (M1 : am_M) (h : g_X9_save  M = some (r0, M1)) : am_Mi l yX9_save cX9_save 1 (some .int) rm_X9_save D E z [.ref (z + 0)] M r0 M1 := by
  unfold g_X9_save at h
  refine am_of (own := RX9) (by decide +kernel) rfl (by exact Nat.le_of_ble_eq_true rfl) ?_
  intro p e s m args below meth c F hr
  show am_W p l e rm_X9_save s m args below meth c _ 1 D E z 0 0 M 0 [(0, .ref (z + 0))] []
  refine am_aload_n F 0 dX9_save_0 rfl rfl ?_
  refine gf_X9_16 F lyk_0 dX9_save_1 ?_
  refine am_aload_n F 0 dX9_save_4 rfl rfl ?_
  refine gf_X9_12 F lyk_0 dX9_save_5 ?_
  obtain ⟨_, M2, h1, h⟩ := am_bE h
  refine am_callVv F [.ref (z + 1)] lyk_53 (by decide) rfl cw_X9_377 (c_X8_copyFrom l D E z 53 lyk_53 1 lyk_1 M M2 h1) yn_X8_copyFrom rfl ⟨Nat.le_of_ble_eq_true rfl, Nat.le_of_ble_eq_true rfl⟩ rfl rfl (Nat.le_of_ble_eq_true rfl) ⟨Nat.zero_le _, Nat.zero_le _⟩ dX9_save_8 rfl ?_
  refine am_aload_n F 0 dX9_save_11 rfl rfl ?_
  refine am_iconst F (v := (1 : Int32)) dX9_save_12 (by decide) ?_
  refine pf_X9_45 F lyk_0 (by decide) dX9_save_13 ?_
  refine am_aload_n F 0 dX9_save_16 rfl rfl ?_
  refine gf_X9_12 F lyk_0 dX9_save_17 ?_
  refine gf_X9_106 F lyk_1 dX9_save_20 ?_
  exact am_iret F hr h dX9_save_23
