/-! methods that constructors call, over the system while it is being made -/
section AQ3
variable {p : Program} {l : Launch} {e : Env} {R : Room} {s : State} {m : MethodId} {args : Array Value} {below : List Frame} {meth : Method} {c : Code} {Q : State → Prop} {cc : ByteArray} {nL : Nat} {own : String} {D : va_G} {E : Nat → ClassId} {z cl sl : Nat} {M : am_M} {U : Nat → List Nat} {nn pc : Nat} {lv : List (Nat × Value)} {st : List Value}
abbrev aq_Mv (l : Launch) (y : MethodName) (b : ByteArray) (maxL : Nat) (ret : Option FieldType) (rm : Room) (D : va_G) (E : Nat → ClassId) (z : Nat) (av : List Value) (U : Nat → List Nat) (nn : Nat) (M M1 : am_M) : Prop := Met l y (am_ws y b maxL ret) rm (va_Pc av (aq_BP z E D M U nn)) (va_Qv (fun u : am_M => u = M1) (fun u t => aq_BQ z E D u U nn t) (fun q => z ≤ q)) 0 0 (fun q => z ≤ q)
abbrev aq_Mi (l : Launch) (y : MethodName) (b : ByteArray) (maxL : Nat) (ret : Option FieldType) (rm : Room) (D : va_G) (E : Nat → ClassId) (z : Nat) (av : List Value) (U : Nat → List Nat) (nn : Nat) (M : am_M) (r0 : Int32) (M1 : am_M) : Prop := Met l y (am_ws y b maxL ret) rm (va_Pc av (aq_BP z E D M U nn)) (va_Qi (fun (r9 : Int32) (u : am_M) => r9 = r0 ∧ u = M1) (fun u t => aq_BQ z E D u U nn t) (fun q => z ≤ q)) 0 0 (fun q => z ≤ q)
theorem aq_callSNv (F : am_F p s m args meth c cc nL own D E z) (hAO : aq_AO s) {y : MethodName} {b : ByteArray} {k0 maxL : Nat} {ret : Option FieldType} {rm : Room} (As : List Value) {i : Nat} {M1 : am_M} {host : String} (cw : am_CSN own i host y b maxL ret) (hM : aq_Mv l y b maxL ret rm D E z As U nn M M1) (hy : am_yn y k0) (hn : As.length = k0) (hR : rm.frames + 1 ≤ R.frames ∧ 8 + (maxL + 11) + rm.locals ≤ R.locals) (hrc : rm.cells = 0) (hrs : rm.slots = 0) (hst : (st.map fun v => v.category).sum ≤ 8) (hcs : cl ≤ R.cells ∧ sl ≤ R.slots) (d : decode cc pc = .ok (.invokestatic i, 3)) {st0 : List Value} (hs0 : st0 = As.reverse ++ st) (k : aq_W p l e R s m args below meth c Q nL D E z cl sl M1 U nn (pc + 3) lv st) : aq_W p l e R s m args below meth c Q nL D E z cl sl M U nn pc lv st0 := by
  subst hs0
  exact fun H locs ls hz hP hS hl => va_callv (va_runSN (As := As) (rest := st) ⟨F.1, F.2.1, F.2.2.1, F.2.2.2.1, F.2.2.2.2.1⟩ hM ⟨va_cnB k0 F.2.2.2.2.1 (am_gi (am_inws cw.2.2.2)) rfl hrc hrs (F.2.2.2.2.2.1.2.1 _ cw.1) (F.2.2.2.2.1 _ cw.2.2.1) ⟨hy.1.1, hy.1.2, hy.2⟩ hR, F.2.2.2.2.1 _ cw.2.1, trivial⟩ ⟨aq_blind, fun S hU hW => ⟨rfl, by rw [hU]; exact hz, by rw [hU]; exact hP, F.2.2.2.2.2.1.move hU hW hS, hAO.moved hW.alike⟩⟩ rfl hn hl.1 rfl (by simpa using hst) d hcs) hS (fun q _ h => h) (fun q h => h) (fun u t H1 locs1 ht _ hp hb _ _ hS1 => by subst hp; exact k H1 locs1 ls (by rw [← ht]; exact hb.1) (by rw [← ht]; exact hb.2) hS1 hl)
theorem aq_callSNi (F : am_F p s m args meth c cc nL own D E z) (hAO : aq_AO s) {y : MethodName} {b : ByteArray} {k0 maxL : Nat} {ret : Option FieldType} {rm : Room} (As : List Value) {i : Nat} {r0 : Int32} {M1 : am_M} {host : String} (cw : am_CSN own i host y b maxL ret) (hM : aq_Mi l y b maxL ret rm D E z As U nn M r0 M1) (hy : am_yn y k0) (hn : As.length = k0) (hR : rm.frames + 1 ≤ R.frames ∧ 8 + (maxL + 11) + rm.locals ≤ R.locals) (hrc : rm.cells = 0) (hrs : rm.slots = 0) (hst : (st.map fun v => v.category).sum ≤ 8) (hcs : cl ≤ R.cells ∧ sl ≤ R.slots) (d : decode cc pc = .ok (.invokestatic i, 3)) {st0 : List Value} (hs0 : st0 = As.reverse ++ st) (k : aq_W p l e R s m args below meth c Q nL D E z cl sl M1 U nn (pc + 3) lv (.int r0 :: st)) : aq_W p l e R s m args below meth c Q nL D E z cl sl M U nn pc lv st0 := by
  subst hs0
  exact fun H locs ls hz hP hS hl => va_calli (va_runSN (As := As) (rest := st) ⟨F.1, F.2.1, F.2.2.1, F.2.2.2.1, F.2.2.2.2.1⟩ hM ⟨va_cnB k0 F.2.2.2.2.1 (am_gi (am_inws cw.2.2.2)) rfl hrc hrs (F.2.2.2.2.2.1.2.1 _ cw.1) (F.2.2.2.2.1 _ cw.2.2.1) ⟨hy.1.1, hy.1.2, hy.2⟩ hR, F.2.2.2.2.1 _ cw.2.1, trivial⟩ ⟨aq_blind, fun S hU hW => ⟨rfl, by rw [hU]; exact hz, by rw [hU]; exact hP, F.2.2.2.2.2.1.move hU hW hS, hAO.moved hW.alike⟩⟩ rfl hn hl.1 rfl (by simpa using hst) d hcs) hS (fun q _ h => h) (fun q h => h) (fun r9 u t H1 locs1 ht _ hp hb _ _ hS1 => by obtain ⟨e1, e2⟩ := hp; subst e1; subst e2; exact k H1 locs1 ls (by rw [← ht]; exact hb.1) (by rw [← ht]; exact hb.2) hS1 hl)
theorem aq_callVv (F : am_F p s m args meth c cc nL own D E z) (hAO : aq_AO s) {y : MethodName} {b : ByteArray} {k0 maxL : Nat} {ret : Option FieldType} {rm : Room} (As : List Value) {i : Nat} {M1 : am_M} {C : String} {T : u_T} {N ci r : Nat} (hly : am_ly r = (ci, 0)) (hr : r < nn) (hci : ci < 20) (hc : am_cl[ci]? = some (C, T, N)) (cw : am_CV own i C y b maxL ret) (hM : aq_Mv l y b maxL ret rm D E z (.ref (z + r) :: As) U nn M M1) (hy : am_yn y k0) (hn : As.length = k0) (hR : rm.frames + 1 ≤ R.frames ∧ 8 + (maxL + 11) + rm.locals ≤ R.locals) (hrc : rm.cells = 0) (hrs : rm.slots = 0) (hst : (st.map fun v => v.category).sum ≤ 8) (hcs : cl ≤ R.cells ∧ sl ≤ R.slots) (d : decode cc pc = .ok (.invokevirtual i, 3)) {st0 : List Value} (hs0 : st0 = As.reverse ++ .ref (z + r) :: st) (k : aq_W p l e R s m args below meth c Q nL D E z cl sl M1 U nn (pc + 3) lv st) : aq_W p l e R s m args below meth c Q nL D E z cl sl M U nn pc lv st0 := by
  subst hs0
  exact fun H locs ls hz hP hS hl => va_callv (va_runV (As := As) (rest := st) ⟨F.1, F.2.1, F.2.2.1, F.2.2.2.1, F.2.2.2.2.1⟩ hM (cwV k0 F.2.2.2.2.1 (am_gi (ws := wsV own i C y (am_ws y b maxL ret)) (am_wsV_in cw)) rfl hrc hrs ⟨cw.2.2.2.2.2, hy.1.1, hy.1.2, hy.2⟩ hR) ⟨aq_blind, va_recv F.2.2.2.2.2.1.1 hP hc (aq_obj hly hci hr), fun S hU hW => ⟨rfl, by rw [hU]; exact hz, by rw [hU]; exact hP, F.2.2.2.2.2.1.move hU hW hS, hAO.moved hW.alike⟩⟩ rfl hn hl.1 rfl (by simpa using hst) d hcs) hS (fun q _ h => h) (fun q h => h) (fun u t H1 locs1 ht _ hp hb _ _ hS1 => by subst hp; exact k H1 locs1 ls (by rw [← ht]; exact hb.1) (by rw [← ht]; exact hb.2) hS1 hl)
theorem aq_v2ret (F : am_F p s m args meth c cc nL own D E z) {M1 : am_M} (hr : meth.sig.returnType = none) (h : some ((), M) = some ((), M1)) (d : decode cc pc = .ok (.return_, 1)) : aq_W p l e R s m args below meth c (MQ below (va_Qv (fun u : am_M => u = M1) (fun u t => aq_BQ z E D u U nn t) (fun q => z ≤ q)) args s 0 0 (fun q => z ≤ q)) nL D E z 0 0 M U nn pc lv [] := by
  obtain rfl : M = M1 := by cases h; rfl
  exact fun H locs ls hz hP hS hl => W.vret F.1 F.2.1 hr (fun t ht hW => ⟨⟨M, rfl, rfl, by rw [ht]; exact hz, by rw [ht]; exact hP⟩, hS.F ht⟩) hS.2.2 d F.2.2.2.2.2.2
theorem aq_i2ret (F : am_F p s m args meth c cc nL own D E z) {v r0 : Int32} {M1 : am_M} (hr : meth.sig.returnType = some .int) (h : some (v, M) = some (r0, M1)) (d : decode cc pc = .ok (.ireturn, 1)) : aq_W p l e R s m args below meth c (MQ below (va_Qi (fun (r9 : Int32) (u : am_M) => r9 = r0 ∧ u = M1) (fun u t => aq_BQ z E D u U nn t) (fun q => z ≤ q)) args s 0 0 (fun q => z ≤ q)) nL D E z 0 0 M U nn pc lv [.int v] := by
  obtain ⟨rfl, rfl⟩ : v = r0 ∧ M = M1 := by cases h; exact ⟨rfl, rfl⟩
  exact fun H locs ls hz hP hS hl => W.iret F.1 F.2.1 hr (fun t ht hW => ⟨⟨v, M, rfl, ⟨rfl, rfl⟩, by rw [ht]; exact hz, by rw [ht]; exact hP⟩, hS.F ht⟩) hS.2.2 d F.2.2.2.2.2.2
theorem gq_X1_15 {p : Program} {l : Launch} {e : Env} {R : Room} {s : State} {m : MethodId} {args : Array Value} {below : List Frame} {meth : Method} {c : Code} {Q : State → Prop} {cc : ByteArray} {nL : Nat} {D : va_G} {E : Nat → ClassId} {z cl sl : Nat} {M : am_M} {U : Nat → List Nat} {nn pc : Nat} {lv : List (Nat × Value)} {st : List Value} (F : am_F p s m args meth c cc nL RX1 D E z) {t : Nat} (ht : am_ly t = (1, 0)) (hb : t < nn) (hu : U t = []) (d : decode cc pc = .ok (.getfield 15, 3)) (k : aq_W p l e R s m args below meth c Q nL D E z cl sl M U nn (pc + 3) lv (.ref (z + (t + 2)) :: st)) : aq_W p l e R s m args below meth c Q nL D E z cl sl M U nn pc lv (.ref (z + t) :: st) := aq_get F (T := TX1) (N := 5) in_X1 ht hb (by decide) rfl 1 (by decide) rfl wd_63 (v := .ref (z + (t + 2))) (by rw [hu, aq_mask_nil]; rfl) d k
theorem gq_X1_18 {p : Program} {l : Launch} {e : Env} {R : Room} {s : State} {m : MethodId} {args : Array Value} {below : List Frame} {meth : Method} {c : Code} {Q : State → Prop} {cc : ByteArray} {nL : Nat} {D : va_G} {E : Nat → ClassId} {z cl sl : Nat} {M : am_M} {U : Nat → List Nat} {nn pc : Nat} {lv : List (Nat × Value)} {st : List Value} (F : am_F p s m args meth c cc nL RX1 D E z) {t : Nat} (ht : am_ly t = (1, 0)) (hb : t < nn) (hu : U t = []) (d : decode cc pc = .ok (.getfield 18, 3)) (k : aq_W p l e R s m args below meth c Q nL D E z cl sl M U nn (pc + 3) lv (.ref (z + (t + 3)) :: st)) : aq_W p l e R s m args below meth c Q nL D E z cl sl M U nn pc lv (.ref (z + t) :: st) := aq_get F (T := TX1) (N := 5) in_X1 ht hb (by decide) rfl 2 (by decide) rfl wd_65 (v := .ref (z + (t + 3))) (by rw [hu, aq_mask_nil]; rfl) d k
theorem gq_X1_9 {p : Program} {l : Launch} {e : Env} {R : Room} {s : State} {m : MethodId} {args : Array Value} {below : List Frame} {meth : Method} {c : Code} {Q : State → Prop} {cc : ByteArray} {nL : Nat} {D : va_G} {E : Nat → ClassId} {z cl sl : Nat} {M : am_M} {U : Nat → List Nat} {nn pc : Nat} {lv : List (Nat × Value)} {st : List Value} (F : am_F p s m args meth c cc nL RX1 D E z) {t : Nat} (ht : am_ly t = (1, 0)) (hb : t < nn) (hu : U t = []) (d : decode cc pc = .ok (.getfield 9, 3)) (k : aq_W p l e R s m args below meth c Q nL D E z cl sl M U nn (pc + 3) lv (.ref (z + (t + 1)) :: st)) : aq_W p l e R s m args below meth c Q nL D E z cl sl M U nn pc lv (.ref (z + t) :: st) := aq_get F (T := TX1) (N := 5) in_X1 ht hb (by decide) rfl 0 (by decide) rfl wd_59 (v := .ref (z + (t + 1))) (by rw [hu, aq_mask_nil]; rfl) d k
theorem pq_X1_31 {p : Program} {l : Launch} {e : Env} {R : Room} {s : State} {m : MethodId} {args : Array Value} {below : List Frame} {meth : Method} {c : Code} {Q : State → Prop} {cc : ByteArray} {nL : Nat} {D : va_G} {E : Nat → ClassId} {z cl sl : Nat} {M : am_M} {U : Nat → List Nat} {nn pc : Nat} {lv : List (Nat × Value)} {st : List Value} {x : Int32} (F : am_F p s m args meth c cc nL RX1 D E z) {t : Nat} (ht : am_ly t = (1, 0)) (hb : t < nn) (hu : U t = []) (d : decode cc pc = .ok (.putfield 31, 3)) (k : aq_W p l e R s m args below meth c Q nL D E z cl sl (am_s M t 3 x) U nn (pc + 3) lv st) : aq_W p l e R s m args below meth c Q nL D E z cl sl M U nn pc lv (.int x :: .ref (z + t) :: st) := aq_put F (T := TX1) (N := 5) in_X1 tyX1 tyX1_ok nmX1 ht hb (by decide) rfl 3 (by decide) rfl rfl wd_67 (ty := .int) (by decide +kernel) rfl rfl (by rw [hu, aq_mask_nil]; exact Nat.le_of_ble_eq_true rfl) (by rw [hu, aq_mask_nil, aq_mask_nil]; simp [am_fs, am_g, am_s]) d k
end AQ3
/-! AisleScheduler.fill([II)V -/
set_option maxHeartbeats 4000000 in
set_option maxRecDepth 100000 in
theorem clq_X9_fill_L2 {l : Launch} {p : Program} {e : Env} {s : State} {m : MethodId} {args : Array Value} {below : List Frame} {meth : Method} {c : Code} {Q : State → Prop} {D : va_G} {E : Nat → ClassId} {z : Nat} {U : Nat → List Nat} {nn : Nat} (hAO : aq_AO s) (F : am_F p s m args meth c cX9_fill 3 RX9 D E z) (t0 n0 : Nat) (y0 : am_ly t0 = (20, n0)) (b0 : t0 < nn) (a1 : Int32) : ∀ (n : Nat) (a2 : Int32) (M : am_M) (x : Unit) (M1 : am_M), g_X9_fill_L2 t0 n0 a1 n a2 M = some (x, M1) → (aq_W p l e rm_X9_fill s m args below meth c Q 3 D E z 0 0 M1 U nn 18 [] []) → aq_W p l e rm_X9_fill s m args below meth c Q 3 D E z 0 0 M U nn 2 [(0, .ref (z + t0)), (1, .int a1), (2, .int a2)] [] := by
  intro n
  induction n with
  | zero => intro a2 M x M1 h K; cases h
  | succ n ih =>
    intro a2 M x M1 h K
    rw [g_X9_fill_L2] at h
    refine aq_iload_n F 2 dX9_fill_2 rfl rfl ?_
    refine aq_aload_n F 0 dX9_fill_3 rfl rfl ?_
    refine aq_alen F y0 (by omega) (by decide) (t0 := 0) rfl (v := (Int32.ofNat n0)) rfl dX9_fill_4 ?_
    refine aq_icmp_ge F (tgt := 18) dX9_fill_5 (by decide) (fun c2 => ?_) (fun c2 => ?_)
    · have h := (if_pos c2).symm.trans h
      cases h
      exact aq_sub (lv' := []) [] rfl (K)
    · have h := (if_neg c2).symm.trans h
      refine aq_aload_n F 0 dX9_fill_8 rfl rfl ?_
      refine aq_iload_n F 2 dX9_fill_9 rfl rfl ?_
      refine aq_iload_n F 1 dX9_fill_10 rfl rfl ?_
      obtain ⟨q1, h⟩ := am_ciE h
      refine aq_iast F y0 (by omega) q1 dX9_fill_11 ?_
      refine aq_iinc F [(2, .int (a2 + (1 : Int32))), (0, .ref (z + t0)), (1, .int a1)] 2 dX9_fill_12 (by decide) rfl rfl rfl ?_
      refine aq_goto F (tgt := 2) dX9_fill_15 (by decide) ?_
      exact aq_sub (lv' := [(0, .ref (z + t0)), (1, .int a1), (2, .int (a2 + (1 : Int32)))]) [1, 2, 0] rfl (ih (a2 + (1 : Int32)) (am_s M t0 a2.toNatClampNeg a1) _ _ h K)
set_option maxHeartbeats 4000000 in
set_option maxRecDepth 100000 in
theorem cq_X9_fill (l : Launch) (D : va_G) (E : Nat → ClassId) (z : Nat) (U : Nat → List Nat) (nn : Nat) (t0 n0 : Nat) (y0 : am_ly t0 = (20, n0)) (b0 : t0 < nn) (a1 : Int32) (M : am_M)  (M1 : am_M) (h : g_X9_fill t0 n0 a1 M = some ((), M1)) : aq_Mv l yX9_fill cX9_fill 3 none rm_X9_fill D E z [.ref (z + t0), .int a1] U nn M M1 := by
  unfold g_X9_fill at h
  refine aq_of (own := RX9) (by decide +kernel) rfl (by exact Nat.le_of_ble_eq_true rfl) ?_
  intro p e s m args below meth c F hr _ hAO hsz
  show aq_W p l e rm_X9_fill s m args below meth c _ 3 D E z 0 0 M U nn 0 [(0, .ref (z + t0)), (1, .int a1)] []
  refine aq_iconst F (v := (0 : Int32)) dX9_fill_0 (by decide) ?_
  refine aq_istore_n F [(2, .int (0 : Int32)), (0, .ref (z + t0)), (1, .int a1)] dX9_fill_1 rfl (by decide) rfl ?_
  obtain ⟨x3, M4, h5, h⟩ := am_bE h
  refine aq_sub (lv' := [(0, .ref (z + t0)), (1, .int a1), (2, .int (0 : Int32))]) [1, 2, 0] rfl (clq_X9_fill_L2 hAO F t0 n0 y0 (by omega) a1 am_fu (0 : Int32) M x3 M4 h5 ?_)
  exact aq_v2ret F hr h dX9_fill_18
/-! AisleScheduler.put([III)V -/
set_option maxHeartbeats 4000000 in
set_option maxRecDepth 100000 in
theorem cq_X9_put (l : Launch) (D : va_G) (E : Nat → ClassId) (z : Nat) (U : Nat → List Nat) (nn : Nat) (t0 n0 : Nat) (y0 : am_ly t0 = (20, n0)) (b0 : t0 < nn) (a1 : Int32) (a2 : Int32) (M : am_M)  (M1 : am_M) (h : g_X9_put t0 n0 a1 a2 M = some ((), M1)) : aq_Mv l yX9_put cX9_put 3 none rm_X9_put D E z [.ref (z + t0), .int a1, .int a2] U nn M M1 := by
  unfold g_X9_put at h
  refine aq_of (own := RX9) (by decide +kernel) rfl (by exact Nat.le_of_ble_eq_true rfl) ?_
  intro p e s m args below meth c F hr _ hAO hsz
  show aq_W p l e rm_X9_put s m args below meth c _ 3 D E z 0 0 M U nn 0 [(0, .ref (z + t0)), (1, .int a1), (2, .int a2)] []
  refine aq_iload_n F 1 dX9_put_0 rfl rfl ?_
  refine aq_if_lt F (tgt := 14) dX9_put_1 (by decide) (fun c3 => ?_) (fun c3 => ?_)
  · have h := (if_pos c3).symm.trans h
    exact aq_v2ret F hr h dX9_put_14
  · have h := (if_neg c3).symm.trans h
    refine aq_iload_n F 1 dX9_put_4 rfl rfl ?_
    refine aq_aload_n F 0 dX9_put_5 rfl rfl ?_
    refine aq_alen F y0 (by omega) (by decide) (t0 := 0) rfl (v := (Int32.ofNat n0)) rfl dX9_put_6 ?_
    refine aq_icmp_ge F (tgt := 14) dX9_put_7 (by decide) (fun c2 => ?_) (fun c2 => ?_)
    · have h := (if_pos c2).symm.trans h
      exact aq_v2ret F hr h dX9_put_14
    · have h := (if_neg c2).symm.trans h
      refine aq_aload_n F 0 dX9_put_10 rfl rfl ?_
      refine aq_iload_n F 1 dX9_put_11 rfl rfl ?_
      refine aq_iload_n F 2 dX9_put_12 rfl rfl ?_
      obtain ⟨q1, h⟩ := am_ciE h
      refine aq_iast F y0 (by omega) q1 dX9_put_13 ?_
      exact aq_v2ret F hr h dX9_put_14
/-! AisleScheduler.neighbor(II)I -/
set_option maxHeartbeats 4000000 in
set_option maxRecDepth 100000 in
theorem cq_X9_neighbor (l : Launch) (D : va_G) (E : Nat → ClassId) (z : Nat) (U : Nat → List Nat) (nn : Nat) (a0 : Int32) (a1 : Int32) (M : am_M) (r0 : Int32) (M1 : am_M) (h : g_X9_neighbor a0 a1 M = some (r0, M1)) : aq_Mi l yX9_neighbor cX9_neighbor 3 (some .int) rm_X9_neighbor D E z [.int a0, .int a1] U nn M r0 M1 := by
  unfold g_X9_neighbor at h
  refine aq_of (own := RX9) (by decide +kernel) rfl (by exact Nat.le_of_ble_eq_true rfl) ?_
  intro p e s m args below meth c F hr _ hAO hsz
  show aq_W p l e rm_X9_neighbor s m args below meth c _ 3 D E z 0 0 M U nn 0 [(0, .int a0), (1, .int a1)] []
  refine aq_iload_n F 0 dX9_neighbor_0 rfl rfl ?_
  refine aq_bipush F (v := (8 : Int32)) dX9_neighbor_1 (by decide) ?_
  refine aq_irem F dX9_neighbor_3 (by decide) ?_
  refine aq_istore_n F [(2, .int (a0 - a0 / (8 : Int32) * (8 : Int32))), (0, .int a0), (1, .int a1)] dX9_neighbor_4 rfl (by decide) rfl ?_
  refine aq_iload_n F 2 dX9_neighbor_5 rfl rfl ?_
  by_cases c1 : a1 = (1 : Int32)
  · have h := (if_pos c1).symm.trans h
    refine aq_tabIn F 1 (tgt := 36) dX9_neighbor_6 (by rw [c1]; decide) rfl rfl (by decide) ?_
    refine aq_iload_n F 1 dX9_neighbor_36 rfl rfl ?_
    refine aq_bipush F (v := (8 : Int32)) dX9_neighbor_37 (by decide) ?_
    refine aq_isub F dX9_neighbor_39 ?_
    refine aq_if_lt F (tgt := 50) dX9_neighbor_40 (by decide) (fun c2 => ?_) (fun c2 => ?_)
    · have h := (if_pos c2).symm.trans h
      refine aq_iconst F (v := (-1 : Int32)) dX9_neighbor_50 (by decide) ?_
      exact aq_i2ret F hr h dX9_neighbor_51
    · have h := (if_neg c2).symm.trans h
      refine aq_iload_n F 1 dX9_neighbor_43 rfl rfl ?_
      refine aq_bipush F (v := (8 : Int32)) dX9_neighbor_44 (by decide) ?_
      refine aq_isub F dX9_neighbor_46 ?_
      refine aq_goto F (tgt := 51) dX9_neighbor_47 (by decide) ?_
      exact aq_i2ret F hr h dX9_neighbor_51
  · have h := (if_neg c1).symm.trans h
    by_cases c3 : a1 = (2 : Int32)
    · have h := (if_pos c3).symm.trans h
      refine aq_tabIn F 2 (tgt := 52) dX9_neighbor_6 (by rw [c3]; decide) rfl rfl (by decide) ?_
      refine aq_iload_n F 0 dX9_neighbor_52 rfl rfl ?_
      refine aq_bipush F (v := (7 : Int32)) dX9_neighbor_53 (by decide) ?_
      refine aq_icmp_ge F (tgt := 64) dX9_neighbor_55 (by decide) (fun c4 => ?_) (fun c4 => ?_)
      · have h := (if_pos c4).symm.trans h
        refine aq_iconst F (v := (-1 : Int32)) dX9_neighbor_64 (by decide) ?_
        exact aq_i2ret F hr h dX9_neighbor_65
      · have h := (if_neg c4).symm.trans h
        refine aq_iload_n F 1 dX9_neighbor_58 rfl rfl ?_
        refine aq_iconst F (v := (1 : Int32)) dX9_neighbor_59 (by decide) ?_
        refine aq_iadd F dX9_neighbor_60 ?_
        refine aq_goto F (tgt := 65) dX9_neighbor_61 (by decide) ?_
        exact aq_i2ret F hr h dX9_neighbor_65
    · have h := (if_neg c3).symm.trans h
      by_cases c5 : a1 = (3 : Int32)
      · have h := (if_pos c5).symm.trans h
        refine aq_tabIn F 3 (tgt := 66) dX9_neighbor_6 (by rw [c5]; decide) rfl rfl (by decide) ?_
        refine aq_iload_n F 1 dX9_neighbor_66 rfl rfl ?_
        refine aq_bipush F (v := (8 : Int32)) dX9_neighbor_67 (by decide) ?_
        refine aq_iadd F dX9_neighbor_69 ?_
        refine aq_bipush F (v := (40 : Int32)) dX9_neighbor_70 (by decide) ?_
        refine aq_icmp_ge F (tgt := 82) dX9_neighbor_72 (by decide) (fun c6 => ?_) (fun c6 => ?_)
        · have h := (if_pos c6).symm.trans h
          refine aq_iconst F (v := (-1 : Int32)) dX9_neighbor_82 (by decide) ?_
          exact aq_i2ret F hr h dX9_neighbor_83
        · have h := (if_neg c6).symm.trans h
          refine aq_iload_n F 1 dX9_neighbor_75 rfl rfl ?_
          refine aq_bipush F (v := (8 : Int32)) dX9_neighbor_76 (by decide) ?_
          refine aq_iadd F dX9_neighbor_78 ?_
          refine aq_goto F (tgt := 83) dX9_neighbor_79 (by decide) ?_
          exact aq_i2ret F hr h dX9_neighbor_83
      · have h := (if_neg c5).symm.trans h
        by_cases c7 : a1 = (4 : Int32)
        · have h := (if_pos c7).symm.trans h
          refine aq_tabIn F 4 (tgt := 84) dX9_neighbor_6 (by rw [c7]; decide) rfl rfl (by decide) ?_
          refine aq_iload_n F 0 dX9_neighbor_84 rfl rfl ?_
          refine aq_if_le F (tgt := 94) dX9_neighbor_85 (by decide) (fun c8 => ?_) (fun c8 => ?_)
          · have h := (if_pos c8).symm.trans h
            refine aq_iconst F (v := (-1 : Int32)) dX9_neighbor_94 (by decide) ?_
            exact aq_i2ret F hr h dX9_neighbor_95
          · have h := (if_neg c8).symm.trans h
            refine aq_iload_n F 1 dX9_neighbor_88 rfl rfl ?_
            refine aq_iconst F (v := (1 : Int32)) dX9_neighbor_89 (by decide) ?_
            refine aq_isub F dX9_neighbor_90 ?_
            refine aq_goto F (tgt := 95) dX9_neighbor_91 (by decide) ?_
            exact aq_i2ret F hr h dX9_neighbor_95
        · have h := (if_neg c7).symm.trans h
          have hsw := am_sw (x := a1) (lo := 1) (n := 4) (by decide) (by decide) (fun j hj => match j, hj with | 0, _ => c1 | 1, _ => c3 | 2, _ => c5 | 3, _ => c7)
          refine aq_tabOut F (tgt := 96) dX9_neighbor_6 (hsw.imp_right (fun h9 => by omega)) (by decide) ?_
          refine aq_iconst F (v := (-1 : Int32)) dX9_neighbor_96 (by decide) ?_
          exact aq_i2ret F hr h dX9_neighbor_97
/-! AisleScheduler$Floor.empty()V -/
set_option maxHeartbeats 4000000 in
set_option maxRecDepth 100000 in
theorem clq_X1_empty_L31 {l : Launch} {p : Program} {e : Env} {s : State} {m : MethodId} {args : Array Value} {below : List Frame} {meth : Method} {c : Code} {Q : State → Prop} {D : va_G} {E : Nat → ClassId} {z : Nat} {U : Nat → List Nat} {nn : Nat} (hAO : aq_AO s) (F : am_F p s m args meth c cX1_empty 3 RX1 D E z) (t0 : Nat) (y0 : am_ly t0 = (1, 0)) (b0 : t0 + 5 ≤ nn) (u0 : U t0 = []) (a1 : Int32) : ∀ (n : Nat) (a2 : Int32) (M : am_M) (x : Unit) (M1 : am_M), g_X1_empty_L31 t0 a1 n a2 M = some (x, M1) → (aq_W p l e rm_X1_empty s m args below meth c Q 3 D E z 0 0 M1 U nn 69 [(0, .ref (z + t0)), (1, .int a1)] []) → aq_W p l e rm_X1_empty s m args below meth c Q 3 D E z 0 0 M U nn 31 [(0, .ref (z + t0)), (1, .int a1), (2, .int a2)] [] := by
  intro n
  induction n with
  | zero => intro a2 M x M1 h K; cases h
  | succ n ih =>
    intro a2 M x M1 h K
    rw [g_X1_empty_L31] at h
    refine aq_iload_n F 2 dX1_empty_31 rfl rfl ?_
    refine aq_bipush F (v := (7 : Int32)) dX1_empty_32 (by decide) ?_
    refine aq_icmp_ge F (tgt := 69) dX1_empty_34 (by decide) (fun c13 => ?_) (fun c13 => ?_)
    · have h := (if_pos c13).symm.trans h
      cases h
      exact aq_sub (lv' := [(0, .ref (z + t0)), (1, .int a1)]) [0, 1] rfl (K)
    · have h := (if_neg c13).symm.trans h
      refine aq_aload_n F 0 dX1_empty_37 rfl rfl ?_
      refine gq_X1_15 F y0 (by omega) u0 dX1_empty_38 ?_
      refine aq_iload_n F 1 dX1_empty_41 rfl rfl ?_
      refine aq_bipush F (v := (7 : Int32)) dX1_empty_42 (by decide) ?_
      refine aq_imul F dX1_empty_44 ?_
      refine aq_iload_n F 2 dX1_empty_45 rfl rfl ?_
      refine aq_iadd F dX1_empty_46 ?_
      refine aq_iload_n F 2 dX1_empty_47 rfl rfl ?_
      refine aq_if_ne F (tgt := 55) dX1_empty_48 (by decide) (fun c12 => ?_) (fun c12 => ?_)
      · have h := (if_neg c12).symm.trans h
        refine aq_iload_n F 1 dX1_empty_55 rfl rfl ?_
        refine aq_iload_n F 2 dX1_empty_56 rfl rfl ?_
        obtain ⟨v7, M6, h5, h⟩ := am_bE h
        refine aq_callSNi F hAO [.int a1, .int a2] cw_X1_35  (cq_X9_neighbor l D E z U nn a1 a2 M v7 M6 h5) yn_X9_neighbor rfl ⟨Nat.le_of_ble_eq_true rfl, Nat.le_of_ble_eq_true rfl⟩ rfl rfl (Nat.le_of_ble_eq_true rfl) ⟨Nat.zero_le _, Nat.zero_le _⟩ dX1_empty_57 rfl ?_
        obtain ⟨_, M9, h8, h⟩ := am_bE h
        refine aq_callSNv F hAO [.ref (z + (t0 + 2)), .int ((a1 * (7 : Int32)) + a2), .int v7] cw_X1_39  (cq_X9_put l D E z U nn (t0 + 2) 280 (lyf_1_links y0) (by omega) ((a1 * (7 : Int32)) + a2) v7 M6 M9 h8) yn_X9_put rfl ⟨Nat.le_of_ble_eq_true rfl, Nat.le_of_ble_eq_true rfl⟩ rfl rfl (Nat.le_of_ble_eq_true rfl) ⟨Nat.zero_le _, Nat.zero_le _⟩ dX1_empty_60 rfl ?_
        refine aq_iinc F [(2, .int (a2 + (1 : Int32))), (0, .ref (z + t0)), (1, .int a1)] 2 dX1_empty_63 (by decide) rfl rfl rfl ?_
        refine aq_goto F (tgt := 31) dX1_empty_66 (by decide) ?_
        exact aq_sub (lv' := [(0, .ref (z + t0)), (1, .int a1), (2, .int (a2 + (1 : Int32)))]) [1, 2, 0] rfl (ih (a2 + (1 : Int32)) M9 _ _ h K)
      · have h := (if_pos c12).symm.trans h
        refine aq_iload_n F 1 dX1_empty_51 rfl rfl ?_
        refine aq_goto F (tgt := 60) dX1_empty_52 (by decide) ?_
        obtain ⟨_, M11, h10, h⟩ := am_bE h
        refine aq_callSNv F hAO [.ref (z + (t0 + 2)), .int ((a1 * (7 : Int32)) + a2), .int a1] cw_X1_39  (cq_X9_put l D E z U nn (t0 + 2) 280 (lyf_1_links y0) (by omega) ((a1 * (7 : Int32)) + a2) a1 M M11 h10) yn_X9_put rfl ⟨Nat.le_of_ble_eq_true rfl, Nat.le_of_ble_eq_true rfl⟩ rfl rfl (Nat.le_of_ble_eq_true rfl) ⟨Nat.zero_le _, Nat.zero_le _⟩ dX1_empty_60 rfl ?_
        refine aq_iinc F [(2, .int (a2 + (1 : Int32))), (0, .ref (z + t0)), (1, .int a1)] 2 dX1_empty_63 (by decide) rfl rfl rfl ?_
        refine aq_goto F (tgt := 31) dX1_empty_66 (by decide) ?_
        exact aq_sub (lv' := [(0, .ref (z + t0)), (1, .int a1), (2, .int (a2 + (1 : Int32)))]) [1, 2, 0] rfl (ih (a2 + (1 : Int32)) M11 _ _ h K)
set_option maxHeartbeats 4000000 in
set_option maxRecDepth 100000 in
theorem clq_X1_empty_L23 {l : Launch} {p : Program} {e : Env} {s : State} {m : MethodId} {args : Array Value} {below : List Frame} {meth : Method} {c : Code} {Q : State → Prop} {D : va_G} {E : Nat → ClassId} {z : Nat} {U : Nat → List Nat} {nn : Nat} (hAO : aq_AO s) (F : am_F p s m args meth c cX1_empty 3 RX1 D E z) (t0 : Nat) (y0 : am_ly t0 = (1, 0)) (b0 : t0 + 5 ≤ nn) (u0 : U t0 = []) : ∀ (n : Nat) (a1 : Int32) (M : am_M) (x : Unit) (M1 : am_M), g_X1_empty_L23 t0 n a1 M = some (x, M1) → (aq_W p l e rm_X1_empty s m args below meth c Q 3 D E z 0 0 M1 U nn 75 [] []) → aq_W p l e rm_X1_empty s m args below meth c Q 3 D E z 0 0 M U nn 23 [(0, .ref (z + t0)), (1, .int a1)] [] := by
  intro n
  induction n with
  | zero => intro a1 M x M1 h K; cases h
  | succ n ih =>
    intro a1 M x M1 h K
    rw [g_X1_empty_L23] at h
    refine aq_iload_n F 1 dX1_empty_23 rfl rfl ?_
    refine aq_bipush F (v := (40 : Int32)) dX1_empty_24 (by decide) ?_
    refine aq_icmp_ge F (tgt := 75) dX1_empty_26 (by decide) (fun c17 => ?_) (fun c17 => ?_)
    · have h := (if_pos c17).symm.trans h
      cases h
      exact aq_sub (lv' := []) [] rfl (K)
    · have h := (if_neg c17).symm.trans h
      refine aq_iconst F (v := (0 : Int32)) dX1_empty_29 (by decide) ?_
      refine aq_istore_n F [(2, .int (0 : Int32)), (0, .ref (z + t0)), (1, .int a1)] dX1_empty_30 rfl (by decide) rfl ?_
      obtain ⟨x14, M15, h16, h⟩ := am_bE h
      refine aq_sub (lv' := [(0, .ref (z + t0)), (1, .int a1), (2, .int (0 : Int32))]) [1, 2, 0] rfl (clq_X1_empty_L31 hAO F t0 y0 (by omega) u0 a1 am_fu (0 : Int32) M x14 M15 h16 ?_)
      refine aq_iinc F [(1, .int (a1 + (1 : Int32))), (0, .ref (z + t0))] 1 dX1_empty_69 (by decide) rfl rfl rfl ?_
      refine aq_goto F (tgt := 23) dX1_empty_72 (by decide) ?_
      exact aq_sub (lv' := [(0, .ref (z + t0)), (1, .int (a1 + (1 : Int32)))]) [1, 0] rfl (ih (a1 + (1 : Int32)) M15 _ _ h K)
set_option maxHeartbeats 4000000 in
set_option maxRecDepth 100000 in
theorem cq_X1_empty (l : Launch) (D : va_G) (E : Nat → ClassId) (z : Nat) (U : Nat → List Nat) (nn : Nat) (t0 : Nat) (y0 : am_ly t0 = (1, 0)) (b0 : t0 + 5 ≤ nn) (u0 : U t0 = []) (M : am_M)  (M1 : am_M) (h : g_X1_empty t0 M = some ((), M1)) : aq_Mv l yX1_empty cX1_empty 3 none rm_X1_empty D E z [.ref (z + t0)] U nn M M1 := by
  unfold g_X1_empty at h
  refine aq_of (own := RX1) (by decide +kernel) rfl (by exact Nat.le_of_ble_eq_true rfl) ?_
  intro p e s m args below meth c F hr _ hAO hsz
  show aq_W p l e rm_X1_empty s m args below meth c _ 3 D E z 0 0 M U nn 0 [(0, .ref (z + t0))] []
  refine aq_aload_n F 0 dX1_empty_0 rfl rfl ?_
  refine gq_X1_9 F y0 (by omega) u0 dX1_empty_1 ?_
  refine aq_iconst F (v := (0 : Int32)) dX1_empty_4 (by decide) ?_
  obtain ⟨_, M2, h1, h⟩ := am_bE h
  refine aq_callSNv F hAO [.ref (z + (t0 + 1)), .int (0 : Int32)] cw_X1_27  (cq_X9_fill l D E z U nn (t0 + 1) 40 (lyf_1_kinds y0) (by omega) (0 : Int32) M M2 h1) yn_X9_fill rfl ⟨Nat.le_of_ble_eq_true rfl, Nat.le_of_ble_eq_true rfl⟩ rfl rfl (Nat.le_of_ble_eq_true rfl) ⟨Nat.zero_le _, Nat.zero_le _⟩ dX1_empty_5 rfl ?_
  refine aq_aload_n F 0 dX1_empty_8 rfl rfl ?_
  refine gq_X1_18 F y0 (by omega) u0 dX1_empty_9 ?_
  refine aq_iconst F (v := (-1 : Int32)) dX1_empty_12 (by decide) ?_
  obtain ⟨_, M4, h3, h⟩ := am_bE h
  refine aq_callSNv F hAO [.ref (z + (t0 + 3)), .int (-1 : Int32)] cw_X1_27  (cq_X9_fill l D E z U nn (t0 + 3) 4 (lyf_1_ends y0) (by omega) (-1 : Int32) M2 M4 h3) yn_X9_fill rfl ⟨Nat.le_of_ble_eq_true rfl, Nat.le_of_ble_eq_true rfl⟩ rfl rfl (Nat.le_of_ble_eq_true rfl) ⟨Nat.zero_le _, Nat.zero_le _⟩ dX1_empty_13 rfl ?_
  refine aq_aload_n F 0 dX1_empty_16 rfl rfl ?_
  refine aq_iconst F (v := (0 : Int32)) dX1_empty_17 (by decide) ?_
  refine pq_X1_31 F y0 (by omega) u0 dX1_empty_18 ?_
  refine aq_iconst F (v := (0 : Int32)) dX1_empty_21 (by decide) ?_
  refine aq_istore_n F [(1, .int (0 : Int32)), (0, .ref (z + t0))] dX1_empty_22 rfl (by decide) rfl ?_
  obtain ⟨x18, M19, h20, h⟩ := am_bE h
  refine aq_sub (lv' := [(0, .ref (z + t0)), (1, .int (0 : Int32))]) [1, 0] rfl (clq_X1_empty_L23 hAO F t0 y0 (by omega) u0 am_fu (0 : Int32) (am_s M4 t0 3 (0 : Int32)) x18 M19 h20 ?_)
  exact aq_v2ret F hr h dX1_empty_75
