/-! Float.floatToIntBits, and the model's activityBits -/
def RJF : String := "java/lang/Float"
abbrev cJF_isNaN : ByteArray := prog_18_method_6_code
def yJF_isNaN : MethodName := ⟨RJF, "isNaN", "(F)Z"⟩
abbrev cJF_floatToIntBits : ByteArray := prog_18_method_24_code
def yJF_floatToIntBits : MethodName := ⟨RJF, "floatToIntBits", "(F)I"⟩
theorem dJF_isNaN_0 : decode cJF_isNaN 0 = .ok (.fload_n 0, 1) := by decide +kernel
theorem dJF_isNaN_1 : decode cJF_isNaN 1 = .ok (.fload_n 0, 1) := by decide +kernel
theorem dJF_isNaN_2 : decode cJF_isNaN 2 = .ok (.fcmp .l, 1) := by decide +kernel
theorem dJF_isNaN_3 : decode cJF_isNaN 3 = .ok (.ifCond .eq 7, 3) := by decide +kernel
theorem dJF_isNaN_6 : decode cJF_isNaN 6 = .ok (.iconst 1, 1) := by decide +kernel
theorem dJF_isNaN_7 : decode cJF_isNaN 7 = .ok (.goto 4, 3) := by decide +kernel
theorem dJF_isNaN_10 : decode cJF_isNaN 10 = .ok (.iconst 0, 1) := by decide +kernel
theorem dJF_isNaN_11 : decode cJF_isNaN 11 = .ok (.ireturn, 1) := by decide +kernel
theorem dJF_floatToIntBits_0 : decode cJF_floatToIntBits 0 = .ok (.fload_n 0, 1) := by decide +kernel
theorem dJF_floatToIntBits_1 : decode cJF_floatToIntBits 1 = .ok (.invokestatic 59, 3) := by decide +kernel
theorem dJF_floatToIntBits_4 : decode cJF_floatToIntBits 4 = .ok (.ifCond .ne 8, 3) := by decide +kernel
theorem dJF_floatToIntBits_7 : decode cJF_floatToIntBits 7 = .ok (.fload_n 0, 1) := by decide +kernel
theorem dJF_floatToIntBits_8 : decode cJF_floatToIntBits 8 = .ok (.invokestatic 74, 3) := by decide +kernel
theorem dJF_floatToIntBits_11 : decode cJF_floatToIntBits 11 = .ok (.ireturn, 1) := by decide +kernel
theorem dJF_floatToIntBits_12 : decode cJF_floatToIntBits 12 = .ok (.ldc 77, 2) := by decide +kernel
theorem dJF_floatToIntBits_14 : decode cJF_floatToIntBits 14 = .ok (.ireturn, 1) := by decide +kernel
theorem wd_25 : (Jvm.Cond.initialized "java/lang/Float") ∈ am_TB := am_tb1 25 (by decide +kernel) (by decide +kernel)
theorem wd_1704 : (Jvm.Cond.methodLink "AisleSchedulerModel" (258 : Nat) ({ cls := "java/lang/Float", name := "floatToIntBits", desc := "(F)I" } : Jvm.MethodName)) ∈ am_TB := am_tb1 1704 (by decide +kernel) (by decide +kernel)
theorem wd_1705 : (Jvm.Cond.static ({ cls := "java/lang/Float", name := "floatToIntBits", desc := "(F)I" } : Jvm.MethodName)) ∈ am_TB := am_tb1 1705 (by decide +kernel) (by decide +kernel)
theorem wd_1706 : (Jvm.Cond.code ({ cls := "java/lang/Float", name := "floatToIntBits", desc := "(F)I" } : Jvm.MethodName) prog_18_method_24_code (1 : Nat) (Option.some Jvm.ClassFile.FieldType.int)) ∈ am_TB := am_tb1 1706 (by decide +kernel) (by decide +kernel)
theorem wd_1707 : (Jvm.Cond.methodLink "java/lang/Float" (59 : Nat) ({ cls := "java/lang/Float", name := "isNaN", desc := "(F)Z" } : Jvm.MethodName)) ∈ am_TB := am_tb1 1707 (by decide +kernel) (by decide +kernel)
theorem wd_1708 : (Jvm.Cond.static ({ cls := "java/lang/Float", name := "isNaN", desc := "(F)Z" } : Jvm.MethodName)) ∈ am_TB := am_tb1 1708 (by decide +kernel) (by decide +kernel)
theorem wd_1709 : (Jvm.Cond.code ({ cls := "java/lang/Float", name := "isNaN", desc := "(F)Z" } : Jvm.MethodName) prog_18_method_6_code (1 : Nat) (Option.some Jvm.ClassFile.FieldType.boolean)) ∈ am_TB := am_tb1 1709 (by decide +kernel) (by decide +kernel)
theorem wd_1710 : (Jvm.Cond.methodLink "java/lang/Float" (74 : Nat) ({ cls := "java/lang/Float", name := "floatToRawIntBits", desc := "(F)I" } : Jvm.MethodName)) ∈ am_TB := am_tb1 1710 (by decide +kernel) (by decide +kernel)
theorem wd_1713 : (Jvm.Cond.constant "java/lang/Float" (77 : Nat) (2143289344 : Int32)) ∈ am_TB := am_tb1 1713 (by decide +kernel) (by decide +kernel)
theorem cw_JF_59 : am_CS RJF 59 yJF_isNaN cJF_isNaN 1 (some .boolean) := ⟨wd_1707, wd_1708, wd_25, wd_1709⟩
theorem cw_X10_258 : am_CS RX10 258 yJF_floatToIntBits cJF_floatToIntBits 1 (some .int) := ⟨wd_1704, wd_1705, wd_25, wd_1706⟩
theorem am_f2raw {p : Program} {l : Launch} {e : Env} {R : Room} {s : State} {m : MethodId} {args : Array Value} {below : List Frame} {meth : Method} {c : Code} {Q : State → Prop} {cc : ByteArray} {nL : Nat} {own : String} {D : va_G} {E : Nat → ClassId} {z cl sl : Nat} {M : am_M} {pc : Nat} {lv : List (Nat × Value)} {st : List Value} (F : am_F p s m args meth c cc nL own D E z) {i : Nat} {x : UInt32} (d : decode cc pc = .ok (.invokestatic i, 3)) (hlink : Cond.methodLink own i ⟨"java/lang/Float", "floatToRawIntBits", "(F)I"⟩ ∈ am_TB) (hfr : 1 ≤ R.frames) (hlo : (st.map fun v => v.category).sum + 15 ≤ R.locals) (k : am_W p l e R s m args below meth c Q nL D E z cl sl M (pc + 3) lv (.int x.toInt32 :: st)) : am_W p l e R s m args below meth c Q nL D E z cl sl M pc lv (.float x :: st) := fun H locs ls hP hS hl => vn_f2i F.1 F.2.1 (F.2.2.1.trans hl.1.symm) F.2.2.2.1 (F.2.2.2.2.1 _ hlink) (F.2.2.2.2.1 _ (am_tb1 1712 (by decide +kernel) (by decide +kernel))) (F.2.2.2.2.1 _ (am_tb1 1711 (by decide +kernel) (by decide +kernel))) (F.2.2.2.2.1 _ wd_25) hfr hlo d (k H locs ls hP hS hl)
theorem am_callSXi {p : Program} {l : Launch} {e : Env} {R : Room} {s : State} {m : MethodId} {args : Array Value} {below : List Frame} {meth : Method} {c : Code} {Q : State → Prop} {cc : ByteArray} {nL : Nat} {own : String} {D : va_G} {E : Nat → ClassId} {z cl sl : Nat} {M : am_M} {pc : Nat} {lv : List (Nat × Value)} {st : List Value} (F : am_F p s m args meth c cc nL own D E z) {y : MethodName} {b : ByteArray} {n maxL : Nat} {ret : Option FieldType} {rm : Room} (As : List Value) {i : Nat} {r0 : Int32} {M1 : am_M} (cw : am_CS own i y b maxL ret) (hM : am_Mi l y b maxL ret rm D E z As M r0 M1) (hy : am_yn y n) (hn : As.length = n) (hR : rm.frames + 1 ≤ R.frames ∧ 8 + (maxL + 11) + rm.locals ≤ R.locals) (hrc : rm.cells = 0) (hrs : rm.slots = 0) (hst : (st.map fun v => v.category).sum ≤ 8) (hcs : cl ≤ R.cells ∧ sl ≤ R.slots) (d : decode cc pc = .ok (.invokestatic i, 3)) {st0 : List Value} (hs0 : st0 = As.reverse ++ st) (k : am_W p l e R s m args below meth c Q nL D E z cl sl M1 (pc + 3) lv (.int r0 :: st)) : am_W p l e R s m args below meth c Q nL D E z cl sl M pc lv st0 := by
  subst hs0
  exact fun H locs ls hP hS hl => va_calli (va_runS (As := As) (rest := st) ⟨F.1, F.2.1, F.2.2.1, F.2.2.2.1, F.2.2.2.2.1⟩ hM ⟨callB_of n F.2.2.2.2.1 (am_gi (am_inws cw.2.2.2)) rfl hrc hrs (F.2.2.2.2.1 _ cw.2.2.1) (F.2.2.2.2.1 _ cw.1) ⟨hy.1.1, hy.1.2, hy.2⟩ hR, F.2.2.2.2.1 _ cw.2.1⟩ ⟨am_blind, fun U hU hW => ⟨rfl, by rw [hU]; exact hP, F.2.2.2.2.2.1.move hU hW hS⟩⟩ rfl hn hl.1 rfl (by simpa using hst) d hcs) hS (fun q _ h => h) (fun q h => h) (fun r9 u t H1 locs1 ht _ hp hb _ _ hS1 => by obtain ⟨e1, e2⟩ := hp; subst e1; subst e2; exact k H1 locs1 ls (by rw [← ht]; exact hb) hS1 hl)
theorem am_MetF {l : Launch} {y : MethodName} {ws ws' : List Cond} {rm : Room} {Pc : Array Value → State → Prop} {Qc : Array Value → State → Outcome → State → Prop} {mc ms : Nat} {free : Addr → Prop} {cc : ByteArray} {maxL : Nat} {ret : Option FieldType}
    (hy : plainFor y = true) (hw : ws = Cond.code y cc maxL ret :: ws')
    (body : ∀ p e s m args below meth c s₁, BodyLoose p l y (headSpec ws rm) cc maxL ret e s m args below meth c s₁ → c.maxLocals = maxL → Pc args s →
      W p l e (headSpec ws rm).room s m args below meth c s.heap [] 0 0 (MQ below Qc args s mc ms free) (entryFrame m args maxL)) : Met l y ws rm Pc Qc mc ms free := by
  refine MetFree.of_bodySF (code := cc) (maxLocals := maxL) (ret := ret) hy ?_ ?_
  · intro args s m h hn
    obtain ⟨meth, c, h1, h2, h3, h4, h5, h6, -, -⟩ := Cond.code_spec hn (atoms_spec (ws := ws) h _ (by rw [hw]; exact List.mem_cons_self))
    exact ⟨meth, c, h1, h2, h3, h4, h5, h6⟩
  · intro p e s m args below meth c s₁ B hml hP _
    have hh0 : s₁.heap = s.heap := by rw [B.state]; rfl
    obtain ⟨t, a1, o, b1, b2, b3⟩ := body p e s m args below meth c s₁ B hml hP s₁ hh0 (Stand.of_body B)
    exact ⟨t, o, a1, b1, b2, ⟨b3.1, b3.2⟩⟩
/-- from a body to its contract: the walk from pc 0 -/
theorem am_ofF {y : MethodName} {b : ByteArray} {maxL : Nat} {ret : Option FieldType} {rm : Room} {Qc : Array Value → State → Outcome → State → Prop} {av : List Value} {l : Launch} {D : va_G} {E : Nat → ClassId} {z : Nat} {M : am_M} {own : String} (hy : plainFor y = true) (hyo : y.cls = own) (hlen : (lg_sl av).length ≤ maxL)
    (body : ∀ (p : Program) (e : Env) (s : State) (m : MethodId) (args : Array Value) (below : List Frame) (meth : Method) (c : Code), am_F p s m args meth c b maxL own D E z → meth.sig.returnType = ret → am_W p l e rm s m args below meth c (MQ below Qc args s 0 0 (fun q => z ≤ q)) maxL D E z 0 0 M 0 (lv_args 0 av) []) : Met l y (am_ws y b maxL ret) rm (va_Pc av (am_BP z E D M)) Qc 0 0 (fun q => z ≤ q) := by
  refine am_MetF (cc := b) (maxL := maxL) (ret := ret) hy rfl ?_
  intro p e s m args below meth c s₁ B hml hv
  obtain ⟨rfl, hP, hT⟩ := hv
  have hts := atoms_spec (ws := am_ws y b maxL ret) B.pre
  have hown : s.vm.findClass own = some m.cls := by rw [← hyo]; exact findClass_of_methodNamed B.named
  have hl := lv_entry av (n := maxL) hlen
  have hF : am_F p s m av.toArray meth c b maxL own D E z := ⟨B.exec, B.bytes, hml, hown, fun w hw => hts w (List.mem_cons_of_mem _ hw), hT, B.notSynchronized⟩
  rw [lg_entry_eq]
  exact body p e s m av.toArray below meth c hF B.returns s.heap [] _ hP va_S.rf hl
/-! java/lang/Float.isNaN(F)Z -/
abbrev rm_JF_isNaN : Room := { frames := 1, cells := 0, slots := 0, locals := 24 }
theorem yn_JF_isNaN : am_yn yJF_isNaN 1 := ⟨⟨by decide +kernel, by decide +kernel⟩, by decide +kernel⟩
def g_JF_isNaN (a0 : UInt32) (M : am_M) : Option (Int32 × am_M) := (if (Op.cmpValue (FP.fcmp a0 a0) .l) = (0 : Int32) then (some ((0 : Int32), M)) else (some ((1 : Int32), M)))
set_option maxHeartbeats 4000000 in
set_option maxRecDepth 100000 in
theorem c_JF_isNaN (l : Launch) (D : va_G) (E : Nat → ClassId) (z : Nat) (a0 : UInt32) (M : am_M) (r0 : Int32) (M1 : am_M) (h : g_JF_isNaN a0 M = some (r0, M1)) : am_Mi l yJF_isNaN cJF_isNaN 1 (some .boolean) rm_JF_isNaN D E z [.float a0] M r0 M1 := by
  unfold g_JF_isNaN at h
  refine am_ofF (own := RJF) (by decide +kernel) rfl (by exact Nat.le_of_ble_eq_true rfl) ?_
  intro p e s m args below meth c F hr
  show am_W p l e rm_JF_isNaN s m args below meth c _ 1 D E z 0 0 M 0 [(0, .float a0)] []
  refine am_fload_n F 0 dJF_isNaN_0 rfl rfl ?_
  refine am_fload_n F 0 dJF_isNaN_1 rfl rfl ?_
  refine am_fcmp F dJF_isNaN_2 ?_
  refine am_if_eq F (tgt := 10) dJF_isNaN_3 (by decide) (fun c1 => ?_) (fun c1 => ?_)
  · have h := (if_pos c1).symm.trans h
    refine am_iconst F (v := (0 : Int32)) dJF_isNaN_10 (by decide) ?_
    exact am_zret F hr (by decide) h dJF_isNaN_11
  · have h := (if_neg c1).symm.trans h
    refine am_iconst F (v := (1 : Int32)) dJF_isNaN_6 (by decide) ?_
    refine am_goto F (tgt := 11) dJF_isNaN_7 (by decide) ?_
    exact am_zret F hr (by decide) h dJF_isNaN_11
/-! java/lang/Float.floatToIntBits(F)I -/
abbrev rm_JF_floatToIntBits : Room := { frames := 2, cells := 0, slots := 0, locals := 44 }
theorem yn_JF_floatToIntBits : am_yn yJF_floatToIntBits 1 := ⟨⟨by decide +kernel, by decide +kernel⟩, by decide +kernel⟩
def g_JF_floatToIntBits (a0 : UInt32) (M : am_M) : Option (Int32 × am_M) := (am_b (g_JF_isNaN a0 M) (fun v3 M2 => (if v3 = (0 : Int32) then (some ((a0.toInt32), M2)) else (some ((2143289344 : Int32), M2)))))
set_option maxHeartbeats 4000000 in
set_option maxRecDepth 100000 in
theorem c_JF_floatToIntBits (l : Launch) (D : va_G) (E : Nat → ClassId) (z : Nat) (a0 : UInt32) (M : am_M) (r0 : Int32) (M1 : am_M) (h : g_JF_floatToIntBits a0 M = some (r0, M1)) : am_Mi l yJF_floatToIntBits cJF_floatToIntBits 1 (some .int) rm_JF_floatToIntBits D E z [.float a0] M r0 M1 := by
  unfold g_JF_floatToIntBits at h
  refine am_ofF (own := RJF) (by decide +kernel) rfl (by exact Nat.le_of_ble_eq_true rfl) ?_
  intro p e s m args below meth c F hr
  show am_W p l e rm_JF_floatToIntBits s m args below meth c _ 1 D E z 0 0 M 0 [(0, .float a0)] []
  refine am_fload_n F 0 dJF_floatToIntBits_0 rfl rfl ?_
  obtain ⟨v3, M2, h1, h⟩ := am_bE h
  refine am_callSi F [.float a0] cw_JF_59 rfl (c_JF_isNaN l D E z a0 M v3 M2 h1) yn_JF_isNaN rfl ⟨Nat.le_of_ble_eq_true rfl, Nat.le_of_ble_eq_true rfl⟩ rfl rfl (Nat.le_of_ble_eq_true rfl) ⟨Nat.zero_le _, Nat.zero_le _⟩ dJF_floatToIntBits_1 rfl ?_
  refine am_if_ne F (tgt := 12) dJF_floatToIntBits_4 (by decide) (fun c4 => ?_) (fun c4 => ?_)
  · have h := (if_neg c4).symm.trans h
    refine am_ldc F (v := (2143289344 : Int32)) dJF_floatToIntBits_12 wd_1713 ?_
    exact am_iret F hr h dJF_floatToIntBits_14
  · have h := (if_pos c4).symm.trans h
    refine am_fload_n F 0 dJF_floatToIntBits_7 rfl rfl ?_
    refine am_f2raw F dJF_floatToIntBits_8 wd_1710 (Nat.le_of_ble_eq_true rfl) (Nat.le_of_ble_eq_true rfl) ?_
    exact am_iret F hr h dJF_floatToIntBits_11
/-! AisleSchedulerModel.activityBits(I)I -/
abbrev rm_X10_activityBits : Room := { frames := 4, cells := 0, slots := 0, locals := 88 }
theorem yn_X10_activityBits : am_yn yX10_activityBits 1 := ⟨⟨by decide +kernel, by decide +kernel⟩, by decide +kernel⟩
def g_X10_activityBits (a1 : Int32) (M : am_M) : Option (Int32 × am_M) := (am_b (g_X10_activeRefusal a1 M) (fun v3 M2 => (if v3 ≤ (0 : Int32) then (am_b (g_X10_active a1 M2) (fun v6 M5 => (am_b (g_JF_floatToIntBits v6 M5) (fun v9 M8 => (some (v9, M8)))))) else (some ((0 : Int32), M2)))))
set_option maxHeartbeats 4000000 in
set_option maxRecDepth 100000 in
theorem c_X10_activityBits (l : Launch) (D : va_G) (E : Nat → ClassId) (z : Nat) (a1 : Int32) (M : am_M) (r0 : Int32) (M1 : am_M) (h : g_X10_activityBits a1 M = some (r0, M1)) : am_Mi l yX10_activityBits cX10_activityBits 2 (some .int) rm_X10_activityBits D E z [.ref (z + 174), .int a1] M r0 M1 := by
  unfold g_X10_activityBits at h
  refine am_of (own := RX10) (by decide +kernel) rfl (by exact Nat.le_of_ble_eq_true rfl) ?_
  intro p e s m args below meth c F hr
  show am_W p l e rm_X10_activityBits s m args below meth c _ 2 D E z 0 0 M 0 [(0, .ref (z + 174)), (1, .int a1)] []
  refine am_aload_n F 0 dX10_activityBits_0 rfl rfl ?_
  refine am_iload_n F 1 dX10_activityBits_1 rfl rfl ?_
  obtain ⟨v3, M2, h1, h⟩ := am_bE h
  refine am_callVi F [.int a1] lyk_174 (by decide) rfl cw_X10_251 (c_X10_activeRefusal l D E z a1 M v3 M2 h1) yn_X10_activeRefusal rfl ⟨Nat.le_of_ble_eq_true rfl, Nat.le_of_ble_eq_true rfl⟩ rfl rfl (Nat.le_of_ble_eq_true rfl) ⟨Nat.zero_le _, Nat.zero_le _⟩ dX10_activityBits_2 rfl ?_
  refine am_if_le F (tgt := 12) dX10_activityBits_5 (by decide) (fun c10 => ?_) (fun c10 => ?_)
  · have h := (if_pos c10).symm.trans h
    refine am_aload_n F 0 dX10_activityBits_12 rfl rfl ?_
    refine am_iload_n F 1 dX10_activityBits_13 rfl rfl ?_
    obtain ⟨v6, M5, h4, h⟩ := am_bE h
    refine am_callVf F [.int a1] lyk_174 (by decide) rfl cw_X10_254 (c_X10_active l D E z a1 M2 v6 M5 h4) yn_X10_active rfl ⟨Nat.le_of_ble_eq_true rfl, Nat.le_of_ble_eq_true rfl⟩ rfl rfl (Nat.le_of_ble_eq_true rfl) ⟨Nat.zero_le _, Nat.zero_le _⟩ dX10_activityBits_14 rfl ?_
    obtain ⟨v9, M8, h7, h⟩ := am_bE h
    refine am_callSXi F [.float v6] cw_X10_258  (c_JF_floatToIntBits l D E z v6 M5 v9 M8 h7) yn_JF_floatToIntBits rfl ⟨Nat.le_of_ble_eq_true rfl, Nat.le_of_ble_eq_true rfl⟩ rfl rfl (Nat.le_of_ble_eq_true rfl) ⟨Nat.zero_le _, Nat.zero_le _⟩ dX10_activityBits_17 rfl ?_
    exact am_iret F hr h dX10_activityBits_20
  · have h := (if_neg c10).symm.trans h
    refine am_iconst F (v := (0 : Int32)) dX10_activityBits_8 (by decide) ?_
    refine am_goto F (tgt := 20) dX10_activityBits_9 (by decide) ?_
    exact am_iret F hr h dX10_activityBits_20
