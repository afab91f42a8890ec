/-! THE CLAIM OUT OF ONE WALK OF THE LAW'S BODY. Your part is whole_start (and what it stands on); all else here is the same for every law, but numbers. -/
def R_law : String := "AisleSchedulerLaw"
def lw_P (b : Addr) (xs : List Int32) (args : Array Value) (s : State) : Prop := args = #[.ref b] ∧ s.IntsAt b xs ∧ xs.length ≤ 2560 ∧ (Jvm.Cond.and given_1 narrow_1).before args s = true
/-- what a walk over the start with the record d0 says of its end, said of the start itself -/
theorem lw_closed {s t : State} {o : Outcome} {d0 : Drawn} {L : List Loc} {k n : Nat} (hd0 : s.drawn.sameBut d0 lw_cs) (hv : ∃ v, o = .returned v) (hW : (s.setDrawn d0).WarmedH t.vm) (hs : (s.setDrawn d0).sameButNew ({ t with vm := s.vm } : State) L k n) : State.butDraws s t lw_cs (fun t1 => Framed s o t1 L k n) := by
  have h2 : t.drawn = d0 := congrArg State.drawn hs.1
  refine ⟨⟨hv, hW, State.sameButNew.setDrawn hs s.drawn⟩, ?_, by decide⟩
  rw [h2]
  exact hd0
def lw_Q (_ : Array Value) (s : State) (o : Outcome) (t : State) : Prop := o = .returned (some (.int 1)) ∧ State.butDraws s t lw_cs (fun t1 => Framed s o t1 [] 603072 7198826)
def lw_Z (below : List Frame) (a : Array Value) (s : State) : State → Prop := fun t => ∃ o, t.status = .running ∧ Ended t below o ∧ lw_Q a s o t
/-- the law's own end, with 1 on the stack, nothing written that was there before, its room as the claim has it; d0: the record of draws at this point (at the entry s.drawn: begin with 'refine W.base ?_' and 'have hd0 := Drawn.sameBut.refl s.drawn lw_cs') -/
theorem lw_ret {p : Program} {l : Launch} {e : Env} {s : State} {m : MethodId} {below : List Frame} {meth : Method} {c : Code} {b : Nat} {d0 : Drawn} (hd0 : s.drawn.sameBut d0 lw_cs) (hx : p.tables.exec = Jvm.exec) (hb : c.code = code) (hr : meth.sig.returnType = ret) (hlocks : meth.locks = false) {pc : Nat} {H : Heap} {ls : Array Slot} (hdg : decode code pc = .ok (.ireturn, 1)) : W p l e room_1 (s.setDrawn d0) m #[Value.ref b] below meth c H [] 603072 7198826 (lw_Z below #[Value.ref b] s) (F0 m pc ls [.int 1]) := by
  intro T hT X
  obtain ⟨fs, hret, hrun, hended, hW, hframe⟩ := X.leave (v := some (.int 1)) (hlocks := hlocks) (fun h => by rw [hr] at h; cases h)
  have hmeth' : T.vm.method? m = some meth := X.method'
  refine ⟨T.setFrames fs, ?_, .returned (some (.int 1)), hrun, hended, rfl, lw_closed hd0 ⟨_, rfl⟩ hW hframe⟩
  jvm_step X.here [X.here.top, hx, hb, hdg, hmeth', hr, ret, narrow_b1]
  (try refine ⟨rfl, ?_⟩); (try refine ⟨rfl, ?_⟩)
  first | (intro acts; rw [hret _ acts rfl rfl rfl]) | rw [hret _ _ rfl rfl rfl]
  exact Steps.refl _
/-- what holds at the law's entry: the machine, the code, the tables' words (any of lw_tbl by 'hts w (by decide +kernel)'), the script of L ints xs at the cell b, what the Statement gives of the start (any of its parts by flat_of_before) -/
def lw_At (p : Program) (s : State) (m : MethodId) (meth : Method) (c : Code) (b L : Nat) (xs : Nat → Int32) : Prop :=
  p.tables.exec = Jvm.exec ∧ c.code = code ∧ meth.sig.returnType = ret ∧ c.maxLocals = 9 ∧ s.vm.findClass R_law = some m.cls ∧ (∀ w ∈ lw_tbl, w.before #[Value.ref b] s = true) ∧ va_X b L xs s s.heap ∧ b < s.heap.size ∧ meth.locks = false ∧ (Jvm.Cond.and given_1 narrow_1).before #[Value.ref b] s = true
def am_Z : am_M := (fun _ _ => 0, fun _ _ => 0, fun _ _ => 0)
theorem am_prim {s : State} {args : Array Value} {ty : FieldType} (h : (Cond.arrayClass ty).before args s = true) : ∃ cA, ArrOfT s cA ty ∧ s.vm.findClass ("[" ++ ty.toString) = some cA := by
  obtain ⟨cA, kA, comp, h1, h2, h3⟩ := Cond.arrayClass_spec h
  exact ⟨cA, fun n z => ⟨(fun k h => by cases h), kA, h2, comp, h3⟩, h1⟩
theorem am_over {s : State} {args : Array Value} {C : String} (h : (Cond.arrayOver (.object C)).before args s = true) : ∃ cA, ArrOfT s cA (.object C) ∧ va_RA s cA (.object C) := by
  obtain ⟨comp, cA, kA, h1, -, h2, h3, h4⟩ := Cond.arrayOver_spec h
  exact ⟨cA, fun n z => ⟨(fun k h => by cases h), kA, h2, comp, h3⟩, kA, comp, h2, h3, h1, h4⟩
theorem am_DE {s : State} {args : Array Value} (hts : ∀ w ∈ lw_tbl, w.before args s = true) : ∃ (D : va_G) (E : Nat → ClassId), va_K D am_cl (am_tys E) s := by
  have htb : ∀ w ∈ am_TB, w.before args s = true := fun w hw => hts w (List.mem_filter.mp hw).1
  have h : ∀ k : Nat, ∃ (cC : ClassId) (iS : Nat → Nat), ∀ q : vw_C, am_cl[k]? = some q → u_Kn s q.1 q.2.1 q.2.2 cC iS := by
    intro k
    match k with
    | 0 =>
      obtain ⟨c0, i0, h0⟩ := u_known (C := RX0) (T := TX0) (N := 5) (n := 5) htb in_X0 (htb (.instantiable RX0 5) (am_tb1 243 (by decide +kernel) (by decide +kernel)))
      exact ⟨c0, i0, fun q hq => by cases hq; exact h0⟩
    | 1 =>
      obtain ⟨c0, i0, h0⟩ := u_known (C := RX1) (T := TX1) (N := 5) (n := 5) htb in_X1 (htb (.instantiable RX1 5) (am_tb1 41 (by decide +kernel) (by decide +kernel)))
      exact ⟨c0, i0, fun q hq => by cases hq; exact h0⟩
    | 2 =>
      obtain ⟨c0, i0, h0⟩ := u_known (C := RX2) (T := TX2) (N := 5) (n := 5) htb in_X2 (htb (.instantiable RX2 5) (am_tb1 94 (by decide +kernel) (by decide +kernel)))
      exact ⟨c0, i0, fun q hq => by cases hq; exact h0⟩
    | 3 =>
      obtain ⟨c0, i0, h0⟩ := u_known (C := RX3) (T := TX3) (N := 3) (n := 3) htb in_X3 (htb (.instantiable RX3 3) (am_tb1 235 (by decide +kernel) (by decide +kernel)))
      exact ⟨c0, i0, fun q hq => by cases hq; exact h0⟩
    | 4 =>
      obtain ⟨c0, i0, h0⟩ := u_known (C := RX4) (T := TX4) (N := 5) (n := 5) htb in_X4 (htb (.instantiable RX4 5) (am_tb1 88 (by decide +kernel) (by decide +kernel)))
      exact ⟨c0, i0, fun q hq => by cases hq; exact h0⟩
    | 5 =>
      obtain ⟨c0, i0, h0⟩ := u_known (C := RX5) (T := TX5) (N := 8) (n := 8) htb in_X5 (htb (.instantiable RX5 8) (am_tb1 292 (by decide +kernel) (by decide +kernel)))
      exact ⟨c0, i0, fun q hq => by cases hq; exact h0⟩
    | 6 =>
      obtain ⟨c0, i0, h0⟩ := u_known (C := RX6) (T := TX6) (N := 2) (n := 2) htb in_X6 (htb (.instantiable RX6 2) (am_tb1 277 (by decide +kernel) (by decide +kernel)))
      exact ⟨c0, i0, fun q hq => by cases hq; exact h0⟩
    | 7 =>
      obtain ⟨c0, i0, h0⟩ := u_known (C := RX7) (T := TX7) (N := 9) (n := 9) htb in_X7 (htb (.instantiable RX7 9) (am_tb1 147 (by decide +kernel) (by decide +kernel)))
      exact ⟨c0, i0, fun q hq => by cases hq; exact h0⟩
    | 8 =>
      obtain ⟨c0, i0, h0⟩ := u_known (C := RX8) (T := TX8) (N := 9) (n := 9) htb in_X8 (htb (.instantiable RX8 9) (am_tb1 35 (by decide +kernel) (by decide +kernel)))
      exact ⟨c0, i0, fun q hq => by cases hq; exact h0⟩
    | 9 =>
      obtain ⟨c0, i0, h0⟩ := u_known (C := RX9) (T := TX9) (N := 8) (n := 8) htb in_X9 (htb (.instantiable RX9 8) (am_tb1 27 (by decide +kernel) (by decide +kernel)))
      exact ⟨c0, i0, fun q hq => by cases hq; exact h0⟩
    | 10 =>
      obtain ⟨c0, i0, h0⟩ := u_known (C := RX10) (T := TX10) (N := 21) (n := 21) htb in_X10 (htb (.instantiable RX10 21) (am_tb1 1290 (by decide +kernel) (by decide +kernel)))
      exact ⟨c0, i0, fun q hq => by cases hq; exact h0⟩
    | k + 11 => exact ⟨0, fun _ => 0, fun q hq => by simp [am_cl] at hq⟩
  obtain ⟨cI, aI, rI⟩ := am_prim (htb (.arrayClass .int) aq_wa20)
  obtain ⟨cJ, aJ, rJ⟩ := am_prim (htb (.arrayClass .long) aq_wa21)
  obtain ⟨cZ, aZ, rZ⟩ := am_prim (htb (.arrayClass .boolean) aq_wa24)
  obtain ⟨cD, aD, rD⟩ := am_prim (htb (.arrayClass .double) aq_wa25)
  obtain ⟨cR, aR, rR⟩ := am_over (hts (.arrayOver (.object "AisleScheduler$Robot")) (List.mem_append_right _ (List.mem_of_getElem? (i := 85) (by decide +kernel))))
  obtain ⟨cT, aT, rT⟩ := am_over (hts (.arrayOver (.object "AisleScheduler$Task")) (List.mem_append_right _ (List.mem_of_getElem? (i := 87) (by decide +kernel))))
  refine ⟨(fun k => (h k).choose, fun k => (h k).choose_spec.choose), fun t => if t = 20 then cI else if t = 21 then cJ else if t = 22 then cR else if t = 23 then cT else if t = 24 then cZ else cD, fun k q hq => (h k).choose_spec.choose_spec q hq, fun k q hq => ?_⟩
  match k, hq with
  | 0, hq => cases hq; exact ⟨aI, rI⟩
  | 1, hq => cases hq; exact ⟨aJ, rJ⟩
  | 2, hq => cases hq; exact ⟨aR, rR⟩
  | 3, hq => cases hq; exact ⟨aT, rT⟩
  | 4, hq => cases hq; exact ⟨aZ, rZ⟩
  | 5, hq => cases hq; exact ⟨aD, rD⟩
  | k + 6, hq => simp [am_tys] at hq
theorem am_strs : am_SR.all (fun q => decide (Cond.exactly (.string q.1 q.2.1) "java/lang/String" ∈ flatC (Jvm.Cond.and given_1 narrow_1))) = true := by decide +kernel
theorem am_ncs : (List.range 7).all (fun i => (List.range 7).all (fun j => decide (i = 0) || decide (j = 0) || decide (i = j) || decide (Cond.not (.castable (am_xn i) (am_xn j)) ∈ flatC (Jvm.Cond.and given_1 narrow_1)))) = true := by decide +kernel
theorem am_start_TW {s : State} {args : Array Value} (hts : ∀ w ∈ lw_tbl, w.before args s = true) (hgv : (Jvm.Cond.and given_1 narrow_1).before args s = true) : ∃ (D : va_G) (E : Nat → ClassId), am_TW s.heap.size E D s ∧ aq_AO s ∧ am_NC s := by
  obtain ⟨D, E, hK⟩ := am_DE hts
  have hs := flat_of_before _ hgv
  have hA : ∀ a : Nat, a < s.heap.size → ¬ (fun q => s.heap.size ≤ q) a := fun a h => Nat.not_le.mpr h
  have hT : ∀ (i : Nat) (w : Cond), tables_1[i]? = some w → w.before args s = true := fun i w h => hts w (List.mem_append_right _ (List.mem_of_getElem? h))
  refine ⟨D, E, ⟨hK, fun w hw => ?_, ?_, ?_, fun q hq => ?_⟩, ⟨va_AO.of (hT 85 (.arrayOver (.object "AisleScheduler$Robot")) (by decide +kernel)), va_AO.of (hT 87 (.arrayOver (.object "AisleScheduler$Task")) (by decide +kernel))⟩, fun i j a1 a2 a3 a4 a5 => ?_⟩
  · obtain ⟨h1, h2⟩ := List.mem_filter.mp hw
    have h3 := hts w (List.mem_append_right _ h1)
    cases w with
    | methodLinkNest => exact va_Nw.of rfl h3
    | fieldLinkNest => exact va_Nw.of rfl h3
    | castable => exact va_Nw.of rfl h3
    | declares => exact va_Nw.of rfl h3
    | _ => exact Bool.noConfusion h2
  · exact vx_Zqof (hT 611 (.laysStatic "java/lang/Throwable" "UNASSIGNED_STACK" "[Ljava/lang/StackTraceElement;") (by decide +kernel)) (hT 12 (.initialized "java/lang/Throwable") (by decide +kernel)) (hs _ (by decide +kernel)) hA
  · exact vx_Zqof (hT 613 (.laysStatic "java/lang/Throwable" "SUPPRESSED_SENTINEL" "Ljava/util/List;") (by decide +kernel)) (hT 12 (.initialized "java/lang/Throwable") (by decide +kernel)) (hs _ (by decide +kernel)) hA
  · obtain ⟨w, h1, h2⟩ := List.mem_filterMap.mp hq
    have h3 := hts w (List.mem_append_right _ h1)
    have h4 := List.all_eq_true.mp am_strs q hq
    have h5 := hs _ (of_decide_eq_true h4)
    obtain ⟨a, c, cell, k, h6, -⟩ := Cond.exactly_spec h5
    cases w with
    | stringRef o k t =>
      cases h2
      exact ⟨a, vk_R.of h3 h6⟩
    | _ => cases h2
  · have h4 := List.all_eq_true.mp (List.all_eq_true.mp am_ncs i (List.mem_range.mpr (by omega))) j (List.mem_range.mpr (by omega))
    have h6 : ¬ i = 0 := by omega
    have h7 : ¬ j = 0 := by omega
    simp only [h6, h7, a5, decide_false, Bool.false_or] at h4
    exact va_Nc.of (hs _ (of_decide_eq_true h4))
theorem am_nost {l : Launch} (h : l.flags = flags0) : l.stackTraces = false := by
  unfold Launch.stackTraces
  rw [h]
  decide +kernel
theorem aq_to_am {p : Program} {l : Launch} {e : Env} {R : Room} {s : State} {m : MethodId} {args : Array Value} {below : List Frame} {meth : Method} {c : Code} {Q : State → Prop} {nL : Nat} {D : va_G} {E : Nat → ClassId} {z cl sl : Nat} {M : am_M} {U : Nat → List Nat} {pc : Nat} {lv : List (Nat × Value)} {st : List Value} (hU : ∀ r, r < 188 → U r = []) (k : am_W p l e R s m args below meth c Q nL D E z cl sl M pc lv st) : aq_W p l e R s m args below meth c Q nL D E z cl sl M U 188 pc lv st := fun H locs ls _ hP hS hl => k H locs ls (by rw [← aq_all hU]; exact hP) hS hl
/-- the memory behind the two constructors, M that behind the worlds' floors -/
def am_init (M : am_M) : am_M := (am_s (am_s (am_s (am_s (am_s (am_s (am_s (am_s (am_s (am_s (am_s (am_s (am_s (am_s (am_s (am_s (am_s (am_s (am_s (am_s (am_s (am_s (am_s (am_s (am_s (am_s (am_s (am_s M 0 6 (0 : Int32)) 0 7 (-1 : Int32)) 174 8 (-1 : Int32)) 174 11 (-1 : Int32)) 178 ((0 : Int32)).toNatClampNeg (-1 : Int32)) 178 ((1 : Int32)).toNatClampNeg (-1 : Int32)) 178 ((2 : Int32)).toNatClampNeg (-1 : Int32)) 178 ((3 : Int32)).toNatClampNeg (-1 : Int32)) 178 ((4 : Int32)).toNatClampNeg (-1 : Int32)) 178 ((5 : Int32)).toNatClampNeg (-1 : Int32)) 178 ((6 : Int32)).toNatClampNeg (-1 : Int32)) 178 ((7 : Int32)).toNatClampNeg (-1 : Int32)) 178 ((8 : Int32)).toNatClampNeg (-1 : Int32)) 178 ((9 : Int32)).toNatClampNeg (-1 : Int32)) 178 ((10 : Int32)).toNatClampNeg (-1 : Int32)) 178 ((11 : Int32)).toNatClampNeg (-1 : Int32)) 178 ((12 : Int32)).toNatClampNeg (-1 : Int32)) 178 ((13 : Int32)).toNatClampNeg (-1 : Int32)) 178 ((14 : Int32)).toNatClampNeg (-1 : Int32)) 178 ((15 : Int32)).toNatClampNeg (-1 : Int32)) 178 ((16 : Int32)).toNatClampNeg (-1 : Int32)) 178 ((17 : Int32)).toNatClampNeg (-1 : Int32)) 178 ((18 : Int32)).toNatClampNeg (-1 : Int32)) 178 ((19 : Int32)).toNatClampNeg (-1 : Int32)) 178 ((20 : Int32)).toNatClampNeg (-1 : Int32)) 178 ((21 : Int32)).toNatClampNeg (-1 : Int32)) 178 ((22 : Int32)).toNatClampNeg (-1 : Int32)) 178 ((23 : Int32)).toNatClampNeg (-1 : Int32))
theorem wd_26 : (Jvm.Cond.classLink "AisleSchedulerLaw" (8 : Nat) "AisleScheduler") ∈ am_TB := am_tb1 26 (by decide +kernel) (by decide +kernel)
theorem wd_27 : (Jvm.Cond.instantiable "AisleScheduler" (8 : Nat)) ∈ am_TB := am_tb1 27 (by decide +kernel) (by decide +kernel)
theorem wd_28 : (Jvm.Cond.methodLink "AisleSchedulerLaw" (134 : Nat) ({ cls := "AisleScheduler", name := "<init>", desc := "()V" } : Jvm.MethodName)) ∈ am_TB := am_tb1 28 (by decide +kernel) (by decide +kernel)
theorem wd_29 : (Jvm.Cond.instanceMethod ({ cls := "AisleScheduler", name := "<init>", desc := "()V" } : Jvm.MethodName)) ∈ am_TB := am_tb1 29 (by decide +kernel) (by decide +kernel)
theorem wd_30 : (Jvm.Cond.code ({ cls := "AisleScheduler", name := "<init>", desc := "()V" } : Jvm.MethodName) prog_1_method_1_code (1 : Nat) (Option.none : Option Jvm.ClassFile.FieldType)) ∈ am_TB := am_tb1 30 (by decide +kernel) (by decide +kernel)
theorem wd_1289 : (Jvm.Cond.classLink "AisleSchedulerLaw" (135 : Nat) "AisleSchedulerModel") ∈ am_TB := am_tb1 1289 (by decide +kernel) (by decide +kernel)
theorem wd_1290 : (Jvm.Cond.instantiable "AisleSchedulerModel" (21 : Nat)) ∈ am_TB := am_tb1 1290 (by decide +kernel) (by decide +kernel)
theorem wd_1291 : (Jvm.Cond.methodLink "AisleSchedulerLaw" (137 : Nat) ({ cls := "AisleSchedulerModel", name := "<init>", desc := "()V" } : Jvm.MethodName)) ∈ am_TB := am_tb1 1291 (by decide +kernel) (by decide +kernel)
theorem wd_1292 : (Jvm.Cond.instanceMethod ({ cls := "AisleSchedulerModel", name := "<init>", desc := "()V" } : Jvm.MethodName)) ∈ am_TB := am_tb1 1292 (by decide +kernel) (by decide +kernel)
theorem wd_1293 : (Jvm.Cond.code ({ cls := "AisleSchedulerModel", name := "<init>", desc := "()V" } : Jvm.MethodName) prog_12_method_1_code (2 : Nat) (Option.none : Option Jvm.ClassFile.FieldType)) ∈ am_TB := am_tb1 1293 (by decide +kernel) (by decide +kernel)
theorem ci_L_134 : aq_CI RL 134 yX9_init cX9_init 1 := ⟨wd_28, wd_29, wd_1, wd_30, rfl⟩
theorem ci_L_137 : aq_CI RL 137 yX10_init cX10_init 2 := ⟨wd_1291, wd_1292, wd_11, wd_1293, rfl⟩
theorem am_init_fr {M3 : am_M} {U : Nat → List Nat} (h : aq_fr (am_s (am_s M3 0 6 (0 : Int32)) 0 7 (-1 : Int32)) U 174) : aq_fr (am_init M3) U 186 := by
  unfold am_init
  repeat (first | exact aq_fr.mono h (by omega) | refine aq_fr_s ?_ (by omega))
set_option maxHeartbeats 4000000 in
set_option maxRecDepth 100000 in
theorem whole_open {p : Program} {e : Env} {s : State} {m : MethodId} {below : List Frame} {meth : Method} {c : Code} (l : Launch) (hflags : l.flags = flags0) {b L : Nat} {xs : Nat → Int32} (C0 : lw_At p s m meth c b L xs) (M1 M2 M3 M9 : am_M) (he1 : g_X1_empty 2 am_Z = some ((), M1)) (hg1 : aq_fr M1 (fun _ => []) 7) (he2 : g_X1_empty 54 M1 = some ((), M2)) (hg2 : aq_fr M2 (fun _ => []) 59) (he3 : g_X1_empty 106 M2 = some ((), M3)) (hg3 : aq_fr M3 (fun _ => []) 111) (hp : g_L_law_L28 xs L 600 0 (am_init M3) = some ((), M9)) : W p l e room_1 s m #[Value.ref b] below meth c s.heap [] 0 0 (lw_Z below #[Value.ref b] s) (entryFrame m ([Value.ref b] : List Value).toArray 9) := by
  obtain ⟨hx, hb, hr, hml, hown, hts, hX, hbl, hlocks, hgv⟩ := id C0
  obtain ⟨D, E, hTW, hAO, hNC⟩ := am_start_TW hts hgv
  obtain ⟨z, hz⟩ : ∃ z, z = s.heap.size := ⟨_, rfl⟩
  rw [← hz] at hTW
  have hd0 := Drawn.sameBut.refl s.drawn lw_cs
  refine W.base ?_
  have hts1 := dr_words hts s.drawn
  have F : am_F p (s.setDrawn s.drawn) m #[Value.ref b] meth c cL_law 9 RL D E z := ⟨hx, hb, hml, hown, fun w hw => hts1 w (List.mem_filter.mp hw).1, hTW.same rfl rfl, hlocks⟩
  have hAO : aq_AO (s.setDrawn s.drawn) := hAO.moved (Vm.Alike.refl s.vm)
  have hNC : am_NC (s.setDrawn s.drawn) := hNC.moved (Vm.Alike.refl s.vm)
  have hls := am_nost hflags
  have hxs : va_X b L xs (s.setDrawn s.drawn) (s.setDrawn s.drawn).heap := hX.moved (Vm.Alike.refl s.vm)
  have hbz : ¬ z ≤ b := by rw [hz]; exact Nat.not_le.mpr hbl
  have hf0 : aq_fr am_Z (fun _ => []) 0 := fun a _ => ⟨rfl, fun _ => rfl, fun _ => rfl, fun _ => rfl⟩
  have hl := lv_entry ([.ref b]) (n := 9) (Nat.le_of_ble_eq_true rfl)
  rw [lg_entry_eq]
  generalize (lg_sl ([.ref b]) ++ List.replicate (9 - (lg_sl ([.ref b])).length) Slot.unset).toArray = ls at hl ⊢
  have key : aq_W p l e room_1 (s.setDrawn s.drawn) m #[Value.ref b] below meth c (lw_Z below #[Value.ref b] s) 9 D E z 0 0 am_Z (fun _ => []) 0 0 [(0, .ref b)] [] := by
    refine aq_new (n := 0) F (T := TX9) (N := 8) in_X9 tyX9 tyX9_ok nmX9 lyk_0 (by decide) rfl [0, 1, 2, 3, 4, 5] wd_26 wd_27 wd_1 (aq_def_9 (hf0 0 (by omega)).2.1) ⟨Nat.le_of_ble_eq_true rfl, Nat.le_of_ble_eq_true rfl⟩ dL_law_0 ?_
    refine aq_dup F dL_law_3 rfl ?_
    refine aq_callI F hAO [] ci_L_134 (ct_X9 l D E z am_Z (fun _ => []) hf0 M1 he1 hg1 M2 he2 hg2 M3 he3 hg3) yn_X9_init rfl ⟨Nat.le_of_ble_eq_true rfl, Nat.le_of_ble_eq_true rfl⟩ rfl rfl (Nat.le_of_ble_eq_true rfl) ⟨Nat.le_of_ble_eq_true rfl, Nat.le_of_ble_eq_true rfl⟩ dL_law_4 rfl ?_
    refine aq_astore_n F [(1, .ref (z + 0)), (0, .ref b)] dL_law_7 rfl (by decide) rfl ?_
    have hf9 : aq_fr (am_s (am_s M3 0 6 (0 : Int32)) 0 7 (-1 : Int32)) (fun _ => []) 174 := (aq_fr_s (a := 0) (k := 7) (v := (-1 : Int32)) (n := 174) (aq_fr_s (a := 0) (k := 6) (v := (0 : Int32)) (n := 174) (aq_fr.mono hg3 (by omega)) (by omega)) (by omega))
    refine aq_new (n := 174) F (T := TX10) (N := 21) in_X10 tyX10 tyX10_ok nmX10 lyk_174 (by decide) rfl [1, 2, 3, 5, 6, 9, 10, 12, 13, 14, 18] wd_1289 wd_1290 wd_11 (aq_def_10 (hf9 174 (by omega)).2.1) ⟨Nat.le_of_ble_eq_true rfl, Nat.le_of_ble_eq_true rfl⟩ dL_law_8 ?_
    refine aq_dup F dL_law_11 rfl ?_
    refine aq_callI F hAO [] ci_L_137 (ct_X10 l D E z (am_s (am_s M3 0 6 (0 : Int32)) 0 7 (-1 : Int32)) (fun _ => []) hf9) yn_X10_init rfl ⟨Nat.le_of_ble_eq_true rfl, Nat.le_of_ble_eq_true rfl⟩ rfl rfl (Nat.le_of_ble_eq_true rfl) ⟨Nat.le_of_ble_eq_true rfl, Nat.le_of_ble_eq_true rfl⟩ dL_law_12 rfl ?_
    refine aq_astore_n F [(2, .ref (z + 174)), (1, .ref (z + 0)), (0, .ref b)] dL_law_15 rfl (by decide) rfl ?_
    have hfi : aq_fr (am_init M3) (fun _ => []) 186 := am_init_fr hf9
    show aq_W p l e room_1 (s.setDrawn s.drawn) m #[Value.ref b] below meth c (lw_Z below #[Value.ref b] s) 9 D E z _ _ (am_init M3) (fun _ => []) 186 16 _ []
    refine aq_iconst F (v := (1 : Int32)) dL_law_16 (by decide) ?_
    refine aq_newa (n := 186) F (atype := .long) (ty := .long) 1 lyk_186 (by decide) rfl rfl aq_wa21 rfl (fun _ h => h) (aq_cell21 (hfi 186 (by omega)).2.2.1) rfl (by decide) (by decide) (Nat.le_of_ble_eq_true rfl) ⟨Nat.le_of_ble_eq_true rfl, Nat.le_of_ble_eq_true rfl⟩ dL_law_17 ?_
    refine aq_astore_n F [(3, .ref (z + 186)), (2, .ref (z + 174)), (1, .ref (z + 0)), (0, .ref b)] dL_law_19 rfl (by decide) rfl ?_
    refine aq_iconst F (v := (1 : Int32)) dL_law_20 (by decide) ?_
    refine aq_newa (n := 187) F (atype := .double) (ty := .double) 5 lyk_187 (by decide) rfl rfl aq_wa25 rfl (fun _ h => h) (aq_cell25 (hfi 187 (by omega)).2.2.2) rfl (by decide) (by decide) (Nat.le_of_ble_eq_true rfl) ⟨Nat.le_of_ble_eq_true rfl, Nat.le_of_ble_eq_true rfl⟩ dL_law_21 ?_
    refine aq_astore F [(4, .ref (z + 187)), (3, .ref (z + 186)), (2, .ref (z + 174)), (1, .ref (z + 0)), (0, .ref b)] dL_law_23 (by decide) rfl ?_
    refine aq_iconst F (v := (0 : Int32)) dL_law_25 (by decide) ?_
    refine aq_istore F [(5, .int (0 : Int32)), (4, .ref (z + 187)), (3, .ref (z + 186)), (2, .ref (z + 174)), (1, .ref (z + 0)), (0, .ref b)] dL_law_26 (by decide) rfl ?_
    refine aq_to_am (fun _ _ => rfl) ?_
    refine am_sub (lv' := [(0, .ref b), (1, .ref (z + 0)), (2, .ref (z + 174)), (3, .ref (z + 186)), (4, .ref (z + 187)), (5, .int (0 : Int32))]) [5, 4, 3, 2, 1, 0] rfl ?_
    refine cl_L_law_L28 F hxs hbl hbz hNC hls 600 (0 : Int32) (am_init M3) M9 _ _ (Nat.le_of_ble_eq_true rfl) (Nat.le_of_ble_eq_true rfl) hp ?_
    intro b5 cl2 sl2 h1 h2
    refine am_iconst F (v := (1 : Int32)) dL_law_2507 (by decide) ?_
    intro H locs ls hP hS hl
    refine va_forget (fun q hq => by have := hS.2.2 q hq; show s.heap.size ≤ q.base; rw [← hz]; exact this) ?_
    exact W.widen (k := 603072) (n := 7198826) h1 h2 (lw_ret hd0 hx hb hr hlocks dL_law_2508)
  exact key s.heap [] ls (by rw [hz]; rfl) (fun k q h => by simp [aq_pic] at h) va_S.rf hl
