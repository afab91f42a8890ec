/-! the law's loop: its calls, its cases, the loop -/
section AML14
variable {p : Program} {l : Launch} {e : Env} {R : Room} {s : State} {m : MethodId} {args : Array Value} {below : List Frame} {meth : Method} {c : Code} {Q : State → Prop} {cc : ByteArray} {nL : Nat} {own : String} {D : va_G} {E : Nat → ClassId} {z cl sl : Nat} {M : am_M} {pc : Nat} {lv : List (Nat × Value)} {st : List Value}
theorem am_wsL_in {own : String} {i n : Nat} {y : MethodName} {b : ByteArray} {ret : Option FieldType} {hh : List (Nat × Nat × Nat × Nat)} (cw : am_CSW own i y b n ret hh) : ∀ w ∈ va_wsS own i y (am_wsL y b n ret hh), w ∈ am_TB := by
  intro w hw
  unfold va_wsS at hw
  rcases List.mem_append.mp hw with h | h
  · simp only [List.mem_cons, List.not_mem_nil, or_false] at h
    rcases h with h | h | h
    · rw [h]; exact cw.1
    · rw [h]; exact cw.2.1
    · rw [h]; exact cw.2.2.1
  · exact (List.mem_cons.mp h).elim (fun e => by rw [e]; exact cw.2.2.2) id
theorem am_callL (F : am_F p s m args meth c cc nL own D E z) (hNC : am_NC s) {y : MethodName} {b : ByteArray} {n maxL : Nat} {ret : Option FieldType} {hh : List (Nat × Nat × Nat × Nat)} {rm : Room} (As : List Value) {i mc ms : Nat} {r0 : Int32} {M1 : am_M} (cw : am_CSW own i y b maxL ret hh) (hM : am_Li l y b maxL ret hh rm D E z As M mc ms r0 M1) (hy : am_yn y n) (hn : As.length = n) (hR : rm.frames + 1 ≤ R.frames ∧ 8 + (maxL + 11) + rm.locals ≤ R.locals) (hrc : rm.cells = mc) (hrs : rm.slots = ms) (hst : (st.map fun v => v.category).sum ≤ 8) (hcs : cl + mc ≤ R.cells ∧ sl + ms ≤ R.slots) (d : decode cc pc = .ok (.invokestatic i, 3)) {st0 : List Value} (hs0 : st0 = As.reverse ++ st) (k : am_W p l e R s m args below meth c Q nL D E z (cl + mc) (sl + ms) M1 (pc + 3) lv (.int r0 :: st)) : am_W p l e R s m args below meth c Q nL D E z cl sl M pc lv st0 := by
  subst hs0
  exact fun H locs ls hP hS hl => va_calli (vx_runSW (As := As) (rest := st) ⟨F.1, F.2.1, F.2.2.1, F.2.2.2.1, F.2.2.2.2.1⟩ hM (vx_cwSW n F.2.2.2.2.1 (am_gi (am_wsL_in cw)) rfl hrc hrs ⟨hy.1.1, hy.1.2, hy.2⟩ hR) ⟨am_blindL, fun U hU hW => ⟨rfl, ⟨by rw [hU]; exact hP, F.2.2.2.2.2.1.move hU hW hS⟩, hNC.moved hW.alike⟩⟩ rfl hn hl.1 rfl (by simpa using hst) d hcs) hS (fun q _ h => h) (fun q h => h) (fun r9 u t H1 locs1 ht _ hp hb _ _ hS1 => by obtain ⟨e1, e2⟩ := hp; subst e1; subst e2; exact k H1 locs1 ls (by rw [← ht]; exact hb) hS1 hl)
theorem am_slen (F : am_F p s m args meth c cc nL own D E z) {b L : Nat} {xs : Nat → Int32} (hX : va_X b L xs s s.heap) (hbl : b < s.heap.size) (hbz : ¬ z ≤ b) (d : decode cc pc = .ok (.arraylength, 1)) (k : am_W p l e R s m args below meth c Q nL D E z cl sl M (pc + 1) lv (.int (Int32.ofNat L) :: st)) : am_W p l e R s m args below meth c Q nL D E z cl sl M pc lv (.ref b :: st) := fun H locs ls hP hS hl => va_slen F.1 F.2.1 hX hbl hbz hS d (k H locs ls hP hS hl)
theorem am_sld (F : am_F p s m args meth c cc nL own D E z) {b L : Nat} {xs : Nat → Int32} (hX : va_X b L xs s s.heap) (hbl : b < s.heap.size) (hbz : ¬ z ≤ b) {i : Int32} (hin : vp_in i L) (d : decode cc pc = .ok (.iaload, 1)) (k : am_W p l e R s m args below meth c Q nL D E z cl sl M (pc + 1) lv (.int (xs i.toNatClampNeg) :: st)) : am_W p l e R s m args below meth c Q nL D E z cl sl M pc lv (.int i :: .ref b :: st) := fun H locs ls hP hS hl => va_sld F.1 F.2.1 hX hbl hbz hS hin d (k H locs ls hP hS hl)
end AML14
theorem wd_0 : (Jvm.Cond.initialized "AisleSchedulerLaw") ∈ am_TB := am_tb1 0 (by decide +kernel) (by decide +kernel)
theorem wd_352 : (Jvm.Cond.methodLink "AisleSchedulerLaw" (138 : Nat) ({ cls := "AisleScheduler", name := "clear", desc := "()I" } : Jvm.MethodName)) ∈ am_TB := am_tb1 352 (by decide +kernel) (by decide +kernel)
theorem wd_353 : (Jvm.Cond.instanceMethod ({ cls := "AisleScheduler", name := "clear", desc := "()I" } : Jvm.MethodName)) ∈ am_TB := am_tb1 353 (by decide +kernel) (by decide +kernel)
theorem wd_354 : (Jvm.Cond.selects "AisleScheduler" ({ cls := "AisleScheduler", name := "clear", desc := "()I" } : Jvm.MethodName) ({ cls := "AisleScheduler", name := "clear", desc := "()I" } : Jvm.MethodName)) ∈ am_TB := am_tb1 354 (by decide +kernel) (by decide +kernel)
theorem wd_355 : (Jvm.Cond.code ({ cls := "AisleScheduler", name := "clear", desc := "()I" } : Jvm.MethodName) prog_1_method_2_code (2 : Nat) (Option.some Jvm.ClassFile.FieldType.int)) ∈ am_TB := am_tb1 355 (by decide +kernel) (by decide +kernel)
theorem wd_362 : (Jvm.Cond.methodLink "AisleSchedulerLaw" (216 : Nat) ({ cls := "AisleScheduler", name := "assignAll", desc := "()I" } : Jvm.MethodName)) ∈ am_TB := am_tb1 362 (by decide +kernel) (by decide +kernel)
theorem wd_363 : (Jvm.Cond.instanceMethod ({ cls := "AisleScheduler", name := "assignAll", desc := "()I" } : Jvm.MethodName)) ∈ am_TB := am_tb1 363 (by decide +kernel) (by decide +kernel)
theorem wd_364 : (Jvm.Cond.selects "AisleScheduler" ({ cls := "AisleScheduler", name := "assignAll", desc := "()I" } : Jvm.MethodName) ({ cls := "AisleScheduler", name := "assignAll", desc := "()I" } : Jvm.MethodName)) ∈ am_TB := am_tb1 364 (by decide +kernel) (by decide +kernel)
theorem wd_365 : (Jvm.Cond.code ({ cls := "AisleScheduler", name := "assignAll", desc := "()I" } : Jvm.MethodName) prog_1_method_25_code (1 : Nat) (Option.some Jvm.ClassFile.FieldType.int)) ∈ am_TB := am_tb1 365 (by decide +kernel) (by decide +kernel)
theorem wd_560 : (Jvm.Cond.methodLink "AisleSchedulerLaw" (243 : Nat) ({ cls := "AisleScheduler", name := "busiestCell", desc := "()I" } : Jvm.MethodName)) ∈ am_TB := am_tb1 560 (by decide +kernel) (by decide +kernel)
theorem wd_561 : (Jvm.Cond.instanceMethod ({ cls := "AisleScheduler", name := "busiestCell", desc := "()I" } : Jvm.MethodName)) ∈ am_TB := am_tb1 561 (by decide +kernel) (by decide +kernel)
theorem wd_562 : (Jvm.Cond.selects "AisleScheduler" ({ cls := "AisleScheduler", name := "busiestCell", desc := "()I" } : Jvm.MethodName) ({ cls := "AisleScheduler", name := "busiestCell", desc := "()I" } : Jvm.MethodName)) ∈ am_TB := am_tb1 562 (by decide +kernel) (by decide +kernel)
theorem wd_563 : (Jvm.Cond.code ({ cls := "AisleScheduler", name := "busiestCell", desc := "()I" } : Jvm.MethodName) prog_1_method_33_code (3 : Nat) (Option.some Jvm.ClassFile.FieldType.int)) ∈ am_TB := am_tb1 563 (by decide +kernel) (by decide +kernel)
theorem wd_565 : (Jvm.Cond.methodLink "AisleSchedulerLaw" (265 : Nat) ({ cls := "AisleScheduler", name := "save", desc := "()I" } : Jvm.MethodName)) ∈ am_TB := am_tb1 565 (by decide +kernel) (by decide +kernel)
theorem wd_566 : (Jvm.Cond.instanceMethod ({ cls := "AisleScheduler", name := "save", desc := "()I" } : Jvm.MethodName)) ∈ am_TB := am_tb1 566 (by decide +kernel) (by decide +kernel)
theorem wd_567 : (Jvm.Cond.selects "AisleScheduler" ({ cls := "AisleScheduler", name := "save", desc := "()I" } : Jvm.MethodName) ({ cls := "AisleScheduler", name := "save", desc := "()I" } : Jvm.MethodName)) ∈ am_TB := am_tb1 567 (by decide +kernel) (by decide +kernel)
theorem wd_568 : (Jvm.Cond.code ({ cls := "AisleScheduler", name := "save", desc := "()I" } : Jvm.MethodName) prog_1_method_39_code (1 : Nat) (Option.some Jvm.ClassFile.FieldType.int)) ∈ am_TB := am_tb1 568 (by decide +kernel) (by decide +kernel)
theorem wd_590 : (Jvm.Cond.methodLink "AisleSchedulerLaw" (142 : Nat) ({ cls := "AisleSchedulerLaw", name := "setCell", desc := "(LAisleScheduler;II[J)I" } : Jvm.MethodName)) ∈ am_TB := am_tb1 590 (by decide +kernel) (by decide +kernel)
theorem wd_591 : (Jvm.Cond.static ({ cls := "AisleSchedulerLaw", name := "setCell", desc := "(LAisleScheduler;II[J)I" } : Jvm.MethodName)) ∈ am_TB := am_tb1 591 (by decide +kernel) (by decide +kernel)
theorem wd_592 : (Jvm.Cond.codeWith ({ cls := "AisleSchedulerLaw", name := "setCell", desc := "(LAisleScheduler;II[J)I" } : Jvm.MethodName) method_3_code (5 : Nat) (Option.some Jvm.ClassFile.FieldType.int) [((0 : Nat), (10 : Nat), (13 : Nat), (13 : Nat)), ((0 : Nat), (10 : Nat), (17 : Nat), (15 : Nat)), ((0 : Nat), (10 : Nat), (21 : Nat), (17 : Nat))]) ∈ am_TB := am_tb1 592 (by decide +kernel) (by decide +kernel)
theorem wd_743 : (Jvm.Cond.methodLink "AisleSchedulerLaw" (151 : Nat) ({ cls := "AisleSchedulerLaw", name := "cell", desc := "(LAisleScheduler;I[J)I" } : Jvm.MethodName)) ∈ am_TB := am_tb1 743 (by decide +kernel) (by decide +kernel)
theorem wd_744 : (Jvm.Cond.static ({ cls := "AisleSchedulerLaw", name := "cell", desc := "(LAisleScheduler;I[J)I" } : Jvm.MethodName)) ∈ am_TB := am_tb1 744 (by decide +kernel) (by decide +kernel)
theorem wd_745 : (Jvm.Cond.codeWith ({ cls := "AisleSchedulerLaw", name := "cell", desc := "(LAisleScheduler;I[J)I" } : Jvm.MethodName) method_4_code (4 : Nat) (Option.some Jvm.ClassFile.FieldType.int) [((0 : Nat), (9 : Nat), (12 : Nat), (13 : Nat))]) ∈ am_TB := am_tb1 745 (by decide +kernel) (by decide +kernel)
theorem wd_754 : (Jvm.Cond.methodLink "AisleSchedulerLaw" (155 : Nat) ({ cls := "AisleSchedulerLaw", name := "addLift", desc := "(LAisleScheduler;II[J)I" } : Jvm.MethodName)) ∈ am_TB := am_tb1 754 (by decide +kernel) (by decide +kernel)
theorem wd_755 : (Jvm.Cond.static ({ cls := "AisleSchedulerLaw", name := "addLift", desc := "(LAisleScheduler;II[J)I" } : Jvm.MethodName)) ∈ am_TB := am_tb1 755 (by decide +kernel) (by decide +kernel)
theorem wd_756 : (Jvm.Cond.codeWith ({ cls := "AisleSchedulerLaw", name := "addLift", desc := "(LAisleScheduler;II[J)I" } : Jvm.MethodName) method_5_code (5 : Nat) (Option.some Jvm.ClassFile.FieldType.int) [((0 : Nat), (10 : Nat), (13 : Nat), (13 : Nat)), ((0 : Nat), (10 : Nat), (17 : Nat), (15 : Nat)), ((0 : Nat), (10 : Nat), (21 : Nat), (17 : Nat))]) ∈ am_TB := am_tb1 756 (by decide +kernel) (by decide +kernel)
theorem wd_770 : (Jvm.Cond.methodLink "AisleSchedulerLaw" (158 : Nat) ({ cls := "AisleSchedulerLaw", name := "addRobot", desc := "(LAisleScheduler;II[J)I" } : Jvm.MethodName)) ∈ am_TB := am_tb1 770 (by decide +kernel) (by decide +kernel)
theorem wd_771 : (Jvm.Cond.static ({ cls := "AisleSchedulerLaw", name := "addRobot", desc := "(LAisleScheduler;II[J)I" } : Jvm.MethodName)) ∈ am_TB := am_tb1 771 (by decide +kernel) (by decide +kernel)
theorem wd_772 : (Jvm.Cond.codeWith ({ cls := "AisleSchedulerLaw", name := "addRobot", desc := "(LAisleScheduler;II[J)I" } : Jvm.MethodName) method_6_code (5 : Nat) (Option.some Jvm.ClassFile.FieldType.int) [((0 : Nat), (10 : Nat), (13 : Nat), (13 : Nat)), ((0 : Nat), (10 : Nat), (17 : Nat), (15 : Nat)), ((0 : Nat), (10 : Nat), (21 : Nat), (17 : Nat))]) ∈ am_TB := am_tb1 772 (by decide +kernel) (by decide +kernel)
theorem wd_787 : (Jvm.Cond.methodLink "AisleSchedulerLaw" (161 : Nat) ({ cls := "AisleSchedulerLaw", name := "robot", desc := "(LAisleScheduler;II[J)I" } : Jvm.MethodName)) ∈ am_TB := am_tb1 787 (by decide +kernel) (by decide +kernel)
theorem wd_788 : (Jvm.Cond.static ({ cls := "AisleSchedulerLaw", name := "robot", desc := "(LAisleScheduler;II[J)I" } : Jvm.MethodName)) ∈ am_TB := am_tb1 788 (by decide +kernel) (by decide +kernel)
theorem wd_789 : (Jvm.Cond.codeWith ({ cls := "AisleSchedulerLaw", name := "robot", desc := "(LAisleScheduler;II[J)I" } : Jvm.MethodName) method_7_code (5 : Nat) (Option.some Jvm.ClassFile.FieldType.int) [((0 : Nat), (10 : Nat), (13 : Nat), (13 : Nat)), ((0 : Nat), (10 : Nat), (17 : Nat), (15 : Nat))]) ∈ am_TB := am_tb1 789 (by decide +kernel) (by decide +kernel)
theorem wd_812 : (Jvm.Cond.methodLink "AisleSchedulerLaw" (164 : Nat) ({ cls := "AisleSchedulerLaw", name := "count", desc := "(LAisleScheduler;I[J)I" } : Jvm.MethodName)) ∈ am_TB := am_tb1 812 (by decide +kernel) (by decide +kernel)
theorem wd_813 : (Jvm.Cond.static ({ cls := "AisleSchedulerLaw", name := "count", desc := "(LAisleScheduler;I[J)I" } : Jvm.MethodName)) ∈ am_TB := am_tb1 813 (by decide +kernel) (by decide +kernel)
theorem wd_814 : (Jvm.Cond.codeWith ({ cls := "AisleSchedulerLaw", name := "count", desc := "(LAisleScheduler;I[J)I" } : Jvm.MethodName) method_8_code (4 : Nat) (Option.some Jvm.ClassFile.FieldType.int) [((0 : Nat), (9 : Nat), (12 : Nat), (15 : Nat))]) ∈ am_TB := am_tb1 814 (by decide +kernel) (by decide +kernel)
theorem wd_823 : (Jvm.Cond.methodLink "AisleSchedulerLaw" (167 : Nat) ({ cls := "AisleSchedulerLaw", name := "region", desc := "(LAisleScheduler;I[J)I" } : Jvm.MethodName)) ∈ am_TB := am_tb1 823 (by decide +kernel) (by decide +kernel)
theorem wd_824 : (Jvm.Cond.static ({ cls := "AisleSchedulerLaw", name := "region", desc := "(LAisleScheduler;I[J)I" } : Jvm.MethodName)) ∈ am_TB := am_tb1 824 (by decide +kernel) (by decide +kernel)
theorem wd_825 : (Jvm.Cond.codeWith ({ cls := "AisleSchedulerLaw", name := "region", desc := "(LAisleScheduler;I[J)I" } : Jvm.MethodName) method_9_code (4 : Nat) (Option.some Jvm.ClassFile.FieldType.int) [((0 : Nat), (9 : Nat), (12 : Nat), (13 : Nat))]) ∈ am_TB := am_tb1 825 (by decide +kernel) (by decide +kernel)
theorem wd_844 : (Jvm.Cond.methodLink "AisleSchedulerLaw" (170 : Nat) ({ cls := "AisleSchedulerLaw", name := "ticksBetween", desc := "(LAisleScheduler;II[J)I" } : Jvm.MethodName)) ∈ am_TB := am_tb1 844 (by decide +kernel) (by decide +kernel)
theorem wd_845 : (Jvm.Cond.static ({ cls := "AisleSchedulerLaw", name := "ticksBetween", desc := "(LAisleScheduler;II[J)I" } : Jvm.MethodName)) ∈ am_TB := am_tb1 845 (by decide +kernel) (by decide +kernel)
theorem wd_846 : (Jvm.Cond.codeWith ({ cls := "AisleSchedulerLaw", name := "ticksBetween", desc := "(LAisleScheduler;II[J)I" } : Jvm.MethodName) method_10_code (5 : Nat) (Option.some Jvm.ClassFile.FieldType.int) [((0 : Nat), (10 : Nat), (13 : Nat), (13 : Nat)), ((0 : Nat), (10 : Nat), (17 : Nat), (41 : Nat))]) ∈ am_TB := am_tb1 846 (by decide +kernel) (by decide +kernel)
theorem wd_873 : (Jvm.Cond.methodLink "AisleSchedulerLaw" (173 : Nat) ({ cls := "AisleSchedulerLaw", name := "plan", desc := "(LAisleScheduler;II[J)I" } : Jvm.MethodName)) ∈ am_TB := am_tb1 873 (by decide +kernel) (by decide +kernel)
theorem wd_874 : (Jvm.Cond.static ({ cls := "AisleSchedulerLaw", name := "plan", desc := "(LAisleScheduler;II[J)I" } : Jvm.MethodName)) ∈ am_TB := am_tb1 874 (by decide +kernel) (by decide +kernel)
theorem wd_875 : (Jvm.Cond.codeWith ({ cls := "AisleSchedulerLaw", name := "plan", desc := "(LAisleScheduler;II[J)I" } : Jvm.MethodName) method_11_code (5 : Nat) (Option.some Jvm.ClassFile.FieldType.int) [((0 : Nat), (10 : Nat), (13 : Nat), (13 : Nat)), ((0 : Nat), (10 : Nat), (17 : Nat), (17 : Nat)), ((0 : Nat), (10 : Nat), (21 : Nat), (41 : Nat)), ((0 : Nat), (10 : Nat), (25 : Nat), (46 : Nat))]) ∈ am_TB := am_tb1 875 (by decide +kernel) (by decide +kernel)
theorem wd_914 : (Jvm.Cond.methodLink "AisleSchedulerLaw" (176 : Nat) ({ cls := "AisleSchedulerLaw", name := "arrival", desc := "(LAisleScheduler;II[J)I" } : Jvm.MethodName)) ∈ am_TB := am_tb1 914 (by decide +kernel) (by decide +kernel)
theorem wd_915 : (Jvm.Cond.static ({ cls := "AisleSchedulerLaw", name := "arrival", desc := "(LAisleScheduler;II[J)I" } : Jvm.MethodName)) ∈ am_TB := am_tb1 915 (by decide +kernel) (by decide +kernel)
theorem wd_916 : (Jvm.Cond.codeWith ({ cls := "AisleSchedulerLaw", name := "arrival", desc := "(LAisleScheduler;II[J)I" } : Jvm.MethodName) method_12_code (5 : Nat) (Option.some Jvm.ClassFile.FieldType.int) [((0 : Nat), (10 : Nat), (13 : Nat), (13 : Nat)), ((0 : Nat), (10 : Nat), (17 : Nat), (17 : Nat)), ((0 : Nat), (10 : Nat), (21 : Nat), (41 : Nat))]) ∈ am_TB := am_tb1 916 (by decide +kernel) (by decide +kernel)
theorem wd_921 : (Jvm.Cond.methodLink "AisleSchedulerLaw" (179 : Nat) ({ cls := "AisleSchedulerLaw", name := "routeCost", desc := "(LAisleScheduler;II[J)I" } : Jvm.MethodName)) ∈ am_TB := am_tb1 921 (by decide +kernel) (by decide +kernel)
theorem wd_922 : (Jvm.Cond.static ({ cls := "AisleSchedulerLaw", name := "routeCost", desc := "(LAisleScheduler;II[J)I" } : Jvm.MethodName)) ∈ am_TB := am_tb1 922 (by decide +kernel) (by decide +kernel)
theorem wd_923 : (Jvm.Cond.codeWith ({ cls := "AisleSchedulerLaw", name := "routeCost", desc := "(LAisleScheduler;II[J)I" } : Jvm.MethodName) method_13_code (5 : Nat) (Option.some Jvm.ClassFile.FieldType.int) [((0 : Nat), (10 : Nat), (13 : Nat), (13 : Nat)), ((0 : Nat), (10 : Nat), (17 : Nat), (17 : Nat)), ((0 : Nat), (10 : Nat), (21 : Nat), (41 : Nat))]) ∈ am_TB := am_tb1 923 (by decide +kernel) (by decide +kernel)
theorem wd_928 : (Jvm.Cond.methodLink "AisleSchedulerLaw" (182 : Nat) ({ cls := "AisleSchedulerLaw", name := "action", desc := "(LAisleScheduler;II[J)I" } : Jvm.MethodName)) ∈ am_TB := am_tb1 928 (by decide +kernel) (by decide +kernel)
theorem wd_929 : (Jvm.Cond.static ({ cls := "AisleSchedulerLaw", name := "action", desc := "(LAisleScheduler;II[J)I" } : Jvm.MethodName)) ∈ am_TB := am_tb1 929 (by decide +kernel) (by decide +kernel)
theorem wd_930 : (Jvm.Cond.codeWith ({ cls := "AisleSchedulerLaw", name := "action", desc := "(LAisleScheduler;II[J)I" } : Jvm.MethodName) method_14_code (5 : Nat) (Option.some Jvm.ClassFile.FieldType.int) [((0 : Nat), (10 : Nat), (13 : Nat), (13 : Nat)), ((0 : Nat), (10 : Nat), (17 : Nat), (41 : Nat))]) ∈ am_TB := am_tb1 930 (by decide +kernel) (by decide +kernel)
theorem wd_940 : (Jvm.Cond.methodLink "AisleSchedulerLaw" (185 : Nat) ({ cls := "AisleSchedulerLaw", name := "cellAfter", desc := "(LAisleScheduler;II[J)I" } : Jvm.MethodName)) ∈ am_TB := am_tb1 940 (by decide +kernel) (by decide +kernel)
theorem wd_941 : (Jvm.Cond.static ({ cls := "AisleSchedulerLaw", name := "cellAfter", desc := "(LAisleScheduler;II[J)I" } : Jvm.MethodName)) ∈ am_TB := am_tb1 941 (by decide +kernel) (by decide +kernel)
theorem wd_942 : (Jvm.Cond.codeWith ({ cls := "AisleSchedulerLaw", name := "cellAfter", desc := "(LAisleScheduler;II[J)I" } : Jvm.MethodName) method_15_code (5 : Nat) (Option.some Jvm.ClassFile.FieldType.int) [((0 : Nat), (10 : Nat), (13 : Nat), (13 : Nat)), ((0 : Nat), (10 : Nat), (17 : Nat), (15 : Nat))]) ∈ am_TB := am_tb1 942 (by decide +kernel) (by decide +kernel)
theorem wd_951 : (Jvm.Cond.methodLink "AisleSchedulerLaw" (188 : Nat) ({ cls := "AisleSchedulerLaw", name := "robotAt", desc := "(LAisleScheduler;II[J)I" } : Jvm.MethodName)) ∈ am_TB := am_tb1 951 (by decide +kernel) (by decide +kernel)
theorem wd_952 : (Jvm.Cond.static ({ cls := "AisleSchedulerLaw", name := "robotAt", desc := "(LAisleScheduler;II[J)I" } : Jvm.MethodName)) ∈ am_TB := am_tb1 952 (by decide +kernel) (by decide +kernel)
theorem wd_953 : (Jvm.Cond.codeWith ({ cls := "AisleSchedulerLaw", name := "robotAt", desc := "(LAisleScheduler;II[J)I" } : Jvm.MethodName) method_16_code (5 : Nat) (Option.some Jvm.ClassFile.FieldType.int) [((0 : Nat), (10 : Nat), (13 : Nat), (13 : Nat)), ((0 : Nat), (10 : Nat), (17 : Nat), (15 : Nat))]) ∈ am_TB := am_tb1 953 (by decide +kernel) (by decide +kernel)
theorem wd_962 : (Jvm.Cond.methodLink "AisleSchedulerLaw" (191 : Nat) ({ cls := "AisleSchedulerLaw", name := "cancel", desc := "(LAisleScheduler;I[J)I" } : Jvm.MethodName)) ∈ am_TB := am_tb1 962 (by decide +kernel) (by decide +kernel)
theorem wd_963 : (Jvm.Cond.static ({ cls := "AisleSchedulerLaw", name := "cancel", desc := "(LAisleScheduler;I[J)I" } : Jvm.MethodName)) ∈ am_TB := am_tb1 963 (by decide +kernel) (by decide +kernel)
theorem wd_964 : (Jvm.Cond.codeWith ({ cls := "AisleSchedulerLaw", name := "cancel", desc := "(LAisleScheduler;I[J)I" } : Jvm.MethodName) method_17_code (4 : Nat) (Option.some Jvm.ClassFile.FieldType.int) [((0 : Nat), (9 : Nat), (12 : Nat), (13 : Nat)), ((0 : Nat), (9 : Nat), (15 : Nat), (17 : Nat)), ((0 : Nat), (9 : Nat), (18 : Nat), (46 : Nat))]) ∈ am_TB := am_tb1 964 (by decide +kernel) (by decide +kernel)
theorem wd_973 : (Jvm.Cond.methodLink "AisleSchedulerLaw" (194 : Nat) ({ cls := "AisleSchedulerLaw", name := "blockers", desc := "(LAisleScheduler;II[J)I" } : Jvm.MethodName)) ∈ am_TB := am_tb1 973 (by decide +kernel) (by decide +kernel)
theorem wd_974 : (Jvm.Cond.static ({ cls := "AisleSchedulerLaw", name := "blockers", desc := "(LAisleScheduler;II[J)I" } : Jvm.MethodName)) ∈ am_TB := am_tb1 974 (by decide +kernel) (by decide +kernel)
theorem wd_975 : (Jvm.Cond.codeWith ({ cls := "AisleSchedulerLaw", name := "blockers", desc := "(LAisleScheduler;II[J)I" } : Jvm.MethodName) method_18_code (5 : Nat) (Option.some Jvm.ClassFile.FieldType.int) [((0 : Nat), (10 : Nat), (13 : Nat), (13 : Nat))]) ∈ am_TB := am_tb1 975 (by decide +kernel) (by decide +kernel)
theorem wd_989 : (Jvm.Cond.methodLink "AisleSchedulerLaw" (197 : Nat) ({ cls := "AisleSchedulerLaw", name := "makeWay", desc := "(LAisleScheduler;II[J)I" } : Jvm.MethodName)) ∈ am_TB := am_tb1 989 (by decide +kernel) (by decide +kernel)
theorem wd_990 : (Jvm.Cond.static ({ cls := "AisleSchedulerLaw", name := "makeWay", desc := "(LAisleScheduler;II[J)I" } : Jvm.MethodName)) ∈ am_TB := am_tb1 990 (by decide +kernel) (by decide +kernel)
theorem wd_991 : (Jvm.Cond.codeWith ({ cls := "AisleSchedulerLaw", name := "makeWay", desc := "(LAisleScheduler;II[J)I" } : Jvm.MethodName) method_19_code (5 : Nat) (Option.some Jvm.ClassFile.FieldType.int) [((0 : Nat), (10 : Nat), (13 : Nat), (13 : Nat)), ((0 : Nat), (10 : Nat), (17 : Nat), (17 : Nat)), ((0 : Nat), (10 : Nat), (21 : Nat), (41 : Nat))]) ∈ am_TB := am_tb1 991 (by decide +kernel) (by decide +kernel)
theorem wd_1010 : (Jvm.Cond.methodLink "AisleSchedulerLaw" (200 : Nat) ({ cls := "AisleSchedulerLaw", name := "planToCharger", desc := "(LAisleScheduler;I[J)I" } : Jvm.MethodName)) ∈ am_TB := am_tb1 1010 (by decide +kernel) (by decide +kernel)
theorem wd_1011 : (Jvm.Cond.static ({ cls := "AisleSchedulerLaw", name := "planToCharger", desc := "(LAisleScheduler;I[J)I" } : Jvm.MethodName)) ∈ am_TB := am_tb1 1011 (by decide +kernel) (by decide +kernel)
theorem wd_1012 : (Jvm.Cond.codeWith ({ cls := "AisleSchedulerLaw", name := "planToCharger", desc := "(LAisleScheduler;I[J)I" } : Jvm.MethodName) method_20_code (4 : Nat) (Option.some Jvm.ClassFile.FieldType.int) [((0 : Nat), (9 : Nat), (12 : Nat), (13 : Nat)), ((0 : Nat), (9 : Nat), (15 : Nat), (17 : Nat)), ((0 : Nat), (9 : Nat), (18 : Nat), (41 : Nat))]) ∈ am_TB := am_tb1 1012 (by decide +kernel) (by decide +kernel)
theorem wd_1023 : (Jvm.Cond.methodLink "AisleSchedulerLaw" (203 : Nat) ({ cls := "AisleSchedulerLaw", name := "addTask", desc := "(LAisleScheduler;IIII[J)I" } : Jvm.MethodName)) ∈ am_TB := am_tb1 1023 (by decide +kernel) (by decide +kernel)
theorem wd_1024 : (Jvm.Cond.static ({ cls := "AisleSchedulerLaw", name := "addTask", desc := "(LAisleScheduler;IIII[J)I" } : Jvm.MethodName)) ∈ am_TB := am_tb1 1024 (by decide +kernel) (by decide +kernel)
theorem wd_1025 : (Jvm.Cond.codeWith ({ cls := "AisleSchedulerLaw", name := "addTask", desc := "(LAisleScheduler;IIII[J)I" } : Jvm.MethodName) method_21_code (7 : Nat) (Option.some Jvm.ClassFile.FieldType.int) [((0 : Nat), (14 : Nat), (17 : Nat), (13 : Nat)), ((0 : Nat), (14 : Nat), (21 : Nat), (15 : Nat)), ((0 : Nat), (14 : Nat), (25 : Nat), (17 : Nat))]) ∈ am_TB := am_tb1 1025 (by decide +kernel) (by decide +kernel)
theorem wd_1037 : (Jvm.Cond.methodLink "AisleSchedulerLaw" (207 : Nat) ({ cls := "AisleSchedulerLaw", name := "serve", desc := "(LAisleScheduler;II[J)I" } : Jvm.MethodName)) ∈ am_TB := am_tb1 1037 (by decide +kernel) (by decide +kernel)
theorem wd_1038 : (Jvm.Cond.static ({ cls := "AisleSchedulerLaw", name := "serve", desc := "(LAisleScheduler;II[J)I" } : Jvm.MethodName)) ∈ am_TB := am_tb1 1038 (by decide +kernel) (by decide +kernel)
theorem wd_1039 : (Jvm.Cond.codeWith ({ cls := "AisleSchedulerLaw", name := "serve", desc := "(LAisleScheduler;II[J)I" } : Jvm.MethodName) method_22_code (5 : Nat) (Option.some Jvm.ClassFile.FieldType.int) [((0 : Nat), (10 : Nat), (13 : Nat), (13 : Nat)), ((0 : Nat), (10 : Nat), (17 : Nat), (17 : Nat))]) ∈ am_TB := am_tb1 1039 (by decide +kernel) (by decide +kernel)
theorem wd_1055 : (Jvm.Cond.methodLink "AisleSchedulerLaw" (210 : Nat) ({ cls := "AisleSchedulerLaw", name := "bestRobot", desc := "(LAisleScheduler;I[J)I" } : Jvm.MethodName)) ∈ am_TB := am_tb1 1055 (by decide +kernel) (by decide +kernel)
theorem wd_1056 : (Jvm.Cond.static ({ cls := "AisleSchedulerLaw", name := "bestRobot", desc := "(LAisleScheduler;I[J)I" } : Jvm.MethodName)) ∈ am_TB := am_tb1 1056 (by decide +kernel) (by decide +kernel)
theorem wd_1057 : (Jvm.Cond.codeWith ({ cls := "AisleSchedulerLaw", name := "bestRobot", desc := "(LAisleScheduler;I[J)I" } : Jvm.MethodName) method_23_code (4 : Nat) (Option.some Jvm.ClassFile.FieldType.int) [((0 : Nat), (9 : Nat), (12 : Nat), (13 : Nat)), ((0 : Nat), (9 : Nat), (15 : Nat), (17 : Nat)), ((0 : Nat), (9 : Nat), (18 : Nat), (41 : Nat))]) ∈ am_TB := am_tb1 1057 (by decide +kernel) (by decide +kernel)
theorem wd_1064 : (Jvm.Cond.methodLink "AisleSchedulerLaw" (213 : Nat) ({ cls := "AisleSchedulerLaw", name := "task", desc := "(LAisleScheduler;II[J)I" } : Jvm.MethodName)) ∈ am_TB := am_tb1 1064 (by decide +kernel) (by decide +kernel)
theorem wd_1065 : (Jvm.Cond.static ({ cls := "AisleSchedulerLaw", name := "task", desc := "(LAisleScheduler;II[J)I" } : Jvm.MethodName)) ∈ am_TB := am_tb1 1065 (by decide +kernel) (by decide +kernel)
theorem wd_1066 : (Jvm.Cond.codeWith ({ cls := "AisleSchedulerLaw", name := "task", desc := "(LAisleScheduler;II[J)I" } : Jvm.MethodName) method_24_code (5 : Nat) (Option.some Jvm.ClassFile.FieldType.int) [((0 : Nat), (10 : Nat), (13 : Nat), (13 : Nat)), ((0 : Nat), (10 : Nat), (17 : Nat), (15 : Nat))]) ∈ am_TB := am_tb1 1066 (by decide +kernel) (by decide +kernel)
theorem wd_1072 : (Jvm.Cond.methodLink "AisleSchedulerLaw" (220 : Nat) ({ cls := "AisleSchedulerLaw", name := "tasksIn", desc := "(LAisleScheduler;I[J)I" } : Jvm.MethodName)) ∈ am_TB := am_tb1 1072 (by decide +kernel) (by decide +kernel)
theorem wd_1073 : (Jvm.Cond.static ({ cls := "AisleSchedulerLaw", name := "tasksIn", desc := "(LAisleScheduler;I[J)I" } : Jvm.MethodName)) ∈ am_TB := am_tb1 1073 (by decide +kernel) (by decide +kernel)
theorem wd_1074 : (Jvm.Cond.codeWith ({ cls := "AisleSchedulerLaw", name := "tasksIn", desc := "(LAisleScheduler;I[J)I" } : Jvm.MethodName) method_25_code (4 : Nat) (Option.some Jvm.ClassFile.FieldType.int) [((0 : Nat), (9 : Nat), (12 : Nat), (15 : Nat))]) ∈ am_TB := am_tb1 1074 (by decide +kernel) (by decide +kernel)
theorem wd_1080 : (Jvm.Cond.methodLink "AisleSchedulerLaw" (223 : Nat) ({ cls := "AisleSchedulerLaw", name := "advance", desc := "(LAisleScheduler;I[J)I" } : Jvm.MethodName)) ∈ am_TB := am_tb1 1080 (by decide +kernel) (by decide +kernel)
theorem wd_1081 : (Jvm.Cond.static ({ cls := "AisleSchedulerLaw", name := "advance", desc := "(LAisleScheduler;I[J)I" } : Jvm.MethodName)) ∈ am_TB := am_tb1 1081 (by decide +kernel) (by decide +kernel)
theorem wd_1082 : (Jvm.Cond.codeWith ({ cls := "AisleSchedulerLaw", name := "advance", desc := "(LAisleScheduler;I[J)I" } : Jvm.MethodName) method_26_code (4 : Nat) (Option.some Jvm.ClassFile.FieldType.int) [((0 : Nat), (9 : Nat), (12 : Nat), (15 : Nat)), ((0 : Nat), (9 : Nat), (15 : Nat), (17 : Nat))]) ∈ am_TB := am_tb1 1082 (by decide +kernel) (by decide +kernel)
theorem wd_1119 : (Jvm.Cond.methodLink "AisleSchedulerLaw" (226 : Nat) ({ cls := "AisleSchedulerLaw", name := "statistic", desc := "(LAisleScheduler;II[J)I" } : Jvm.MethodName)) ∈ am_TB := am_tb1 1119 (by decide +kernel) (by decide +kernel)
theorem wd_1120 : (Jvm.Cond.static ({ cls := "AisleSchedulerLaw", name := "statistic", desc := "(LAisleScheduler;II[J)I" } : Jvm.MethodName)) ∈ am_TB := am_tb1 1120 (by decide +kernel) (by decide +kernel)
theorem wd_1121 : (Jvm.Cond.codeWith ({ cls := "AisleSchedulerLaw", name := "statistic", desc := "(LAisleScheduler;II[J)I" } : Jvm.MethodName) method_27_code (5 : Nat) (Option.some Jvm.ClassFile.FieldType.int) [((0 : Nat), (10 : Nat), (13 : Nat), (13 : Nat)), ((0 : Nat), (10 : Nat), (17 : Nat), (15 : Nat))]) ∈ am_TB := am_tb1 1121 (by decide +kernel) (by decide +kernel)
theorem wd_1127 : (Jvm.Cond.methodLink "AisleSchedulerLaw" (229 : Nat) ({ cls := "AisleSchedulerLaw", name := "activity", desc := "(LAisleScheduler;I[D)I" } : Jvm.MethodName)) ∈ am_TB := am_tb1 1127 (by decide +kernel) (by decide +kernel)
theorem wd_1128 : (Jvm.Cond.static ({ cls := "AisleSchedulerLaw", name := "activity", desc := "(LAisleScheduler;I[D)I" } : Jvm.MethodName)) ∈ am_TB := am_tb1 1128 (by decide +kernel) (by decide +kernel)
theorem wd_1129 : (Jvm.Cond.codeWith ({ cls := "AisleSchedulerLaw", name := "activity", desc := "(LAisleScheduler;I[D)I" } : Jvm.MethodName) method_28_code (4 : Nat) (Option.some Jvm.ClassFile.FieldType.int) [((0 : Nat), (9 : Nat), (12 : Nat), (13 : Nat)), ((0 : Nat), (9 : Nat), (15 : Nat), (101 : Nat))]) ∈ am_TB := am_tb1 1129 (by decide +kernel) (by decide +kernel)
theorem wd_1155 : (Jvm.Cond.methodLink "AisleSchedulerLaw" (233 : Nat) ({ cls := "AisleSchedulerLaw", name := "activityBits", desc := "(LAisleScheduler;I[J)I" } : Jvm.MethodName)) ∈ am_TB := am_tb1 1155 (by decide +kernel) (by decide +kernel)
theorem wd_1156 : (Jvm.Cond.static ({ cls := "AisleSchedulerLaw", name := "activityBits", desc := "(LAisleScheduler;I[J)I" } : Jvm.MethodName)) ∈ am_TB := am_tb1 1156 (by decide +kernel) (by decide +kernel)
theorem wd_1157 : (Jvm.Cond.codeWith ({ cls := "AisleSchedulerLaw", name := "activityBits", desc := "(LAisleScheduler;I[J)I" } : Jvm.MethodName) method_29_code (4 : Nat) (Option.some Jvm.ClassFile.FieldType.int) [((0 : Nat), (9 : Nat), (12 : Nat), (13 : Nat)), ((0 : Nat), (9 : Nat), (15 : Nat), (101 : Nat))]) ∈ am_TB := am_tb1 1157 (by decide +kernel) (by decide +kernel)
theorem wd_1167 : (Jvm.Cond.methodLink "AisleSchedulerLaw" (236 : Nat) ({ cls := "AisleSchedulerLaw", name := "averageDelay", desc := "(LAisleScheduler;[D)I" } : Jvm.MethodName)) ∈ am_TB := am_tb1 1167 (by decide +kernel) (by decide +kernel)
theorem wd_1168 : (Jvm.Cond.static ({ cls := "AisleSchedulerLaw", name := "averageDelay", desc := "(LAisleScheduler;[D)I" } : Jvm.MethodName)) ∈ am_TB := am_tb1 1168 (by decide +kernel) (by decide +kernel)
theorem wd_1169 : (Jvm.Cond.codeWith ({ cls := "AisleSchedulerLaw", name := "averageDelay", desc := "(LAisleScheduler;[D)I" } : Jvm.MethodName) method_30_code (3 : Nat) (Option.some Jvm.ClassFile.FieldType.int) [((0 : Nat), (7 : Nat), (10 : Nat), (101 : Nat))]) ∈ am_TB := am_tb1 1169 (by decide +kernel) (by decide +kernel)
theorem wd_1175 : (Jvm.Cond.methodLink "AisleSchedulerLaw" (240 : Nat) ({ cls := "AisleSchedulerLaw", name := "visits", desc := "(LAisleScheduler;I[J)I" } : Jvm.MethodName)) ∈ am_TB := am_tb1 1175 (by decide +kernel) (by decide +kernel)
theorem wd_1176 : (Jvm.Cond.static ({ cls := "AisleSchedulerLaw", name := "visits", desc := "(LAisleScheduler;I[J)I" } : Jvm.MethodName)) ∈ am_TB := am_tb1 1176 (by decide +kernel) (by decide +kernel)
theorem wd_1177 : (Jvm.Cond.codeWith ({ cls := "AisleSchedulerLaw", name := "visits", desc := "(LAisleScheduler;I[J)I" } : Jvm.MethodName) method_31_code (4 : Nat) (Option.some Jvm.ClassFile.FieldType.int) [((0 : Nat), (9 : Nat), (12 : Nat), (13 : Nat))]) ∈ am_TB := am_tb1 1177 (by decide +kernel) (by decide +kernel)
theorem wd_1182 : (Jvm.Cond.methodLink "AisleSchedulerLaw" (247 : Nat) ({ cls := "AisleSchedulerLaw", name := "sample", desc := "(LAisleScheduler;III[J)I" } : Jvm.MethodName)) ∈ am_TB := am_tb1 1182 (by decide +kernel) (by decide +kernel)
theorem wd_1183 : (Jvm.Cond.static ({ cls := "AisleSchedulerLaw", name := "sample", desc := "(LAisleScheduler;III[J)I" } : Jvm.MethodName)) ∈ am_TB := am_tb1 1183 (by decide +kernel) (by decide +kernel)
theorem wd_1184 : (Jvm.Cond.codeWith ({ cls := "AisleSchedulerLaw", name := "sample", desc := "(LAisleScheduler;III[J)I" } : Jvm.MethodName) method_32_code (6 : Nat) (Option.some Jvm.ClassFile.FieldType.int) [((0 : Nat), (12 : Nat), (15 : Nat), (13 : Nat)), ((0 : Nat), (12 : Nat), (19 : Nat), (46 : Nat))]) ∈ am_TB := am_tb1 1184 (by decide +kernel) (by decide +kernel)
theorem wd_1205 : (Jvm.Cond.methodLink "AisleSchedulerLaw" (251 : Nat) ({ cls := "AisleSchedulerLaw", name := "sampled", desc := "(LAisleScheduler;III[J)I" } : Jvm.MethodName)) ∈ am_TB := am_tb1 1205 (by decide +kernel) (by decide +kernel)
theorem wd_1206 : (Jvm.Cond.static ({ cls := "AisleSchedulerLaw", name := "sampled", desc := "(LAisleScheduler;III[J)I" } : Jvm.MethodName)) ∈ am_TB := am_tb1 1206 (by decide +kernel) (by decide +kernel)
theorem wd_1207 : (Jvm.Cond.codeWith ({ cls := "AisleSchedulerLaw", name := "sampled", desc := "(LAisleScheduler;III[J)I" } : Jvm.MethodName) method_33_code (6 : Nat) (Option.some Jvm.ClassFile.FieldType.int) [((0 : Nat), (12 : Nat), (15 : Nat), (13 : Nat)), ((0 : Nat), (12 : Nat), (19 : Nat), (15 : Nat)), ((0 : Nat), (12 : Nat), (23 : Nat), (41 : Nat))]) ∈ am_TB := am_tb1 1207 (by decide +kernel) (by decide +kernel)
theorem wd_1214 : (Jvm.Cond.methodLink "AisleSchedulerLaw" (254 : Nat) ({ cls := "AisleSchedulerLaw", name := "append", desc := "(LAisleScheduler;C[J)I" } : Jvm.MethodName)) ∈ am_TB := am_tb1 1214 (by decide +kernel) (by decide +kernel)
theorem wd_1215 : (Jvm.Cond.static ({ cls := "AisleSchedulerLaw", name := "append", desc := "(LAisleScheduler;C[J)I" } : Jvm.MethodName)) ∈ am_TB := am_tb1 1215 (by decide +kernel) (by decide +kernel)
theorem wd_1216 : (Jvm.Cond.codeWith ({ cls := "AisleSchedulerLaw", name := "append", desc := "(LAisleScheduler;C[J)I" } : Jvm.MethodName) method_34_code (4 : Nat) (Option.some Jvm.ClassFile.FieldType.int) [((0 : Nat), (9 : Nat), (12 : Nat), (15 : Nat)), ((0 : Nat), (9 : Nat), (15 : Nat), (17 : Nat))]) ∈ am_TB := am_tb1 1216 (by decide +kernel) (by decide +kernel)
theorem wd_1228 : (Jvm.Cond.methodLink "AisleSchedulerLaw" (258 : Nat) ({ cls := "AisleSchedulerLaw", name := "read", desc := "(LAisleScheduler;[J)I" } : Jvm.MethodName)) ∈ am_TB := am_tb1 1228 (by decide +kernel) (by decide +kernel)
theorem wd_1229 : (Jvm.Cond.static ({ cls := "AisleSchedulerLaw", name := "read", desc := "(LAisleScheduler;[J)I" } : Jvm.MethodName)) ∈ am_TB := am_tb1 1229 (by decide +kernel) (by decide +kernel)
theorem wd_1230 : (Jvm.Cond.codeWith ({ cls := "AisleSchedulerLaw", name := "read", desc := "(LAisleScheduler;[J)I" } : Jvm.MethodName) method_35_code (3 : Nat) (Option.some Jvm.ClassFile.FieldType.int) [((0 : Nat), (8 : Nat), (11 : Nat), (15 : Nat)), ((0 : Nat), (8 : Nat), (14 : Nat), (17 : Nat))]) ∈ am_TB := am_tb1 1230 (by decide +kernel) (by decide +kernel)
theorem wd_1273 : (Jvm.Cond.methodLink "AisleSchedulerLaw" (262 : Nat) ({ cls := "AisleSchedulerLaw", name := "errorPosition", desc := "(LAisleScheduler;[J)I" } : Jvm.MethodName)) ∈ am_TB := am_tb1 1273 (by decide +kernel) (by decide +kernel)
theorem wd_1274 : (Jvm.Cond.static ({ cls := "AisleSchedulerLaw", name := "errorPosition", desc := "(LAisleScheduler;[J)I" } : Jvm.MethodName)) ∈ am_TB := am_tb1 1274 (by decide +kernel) (by decide +kernel)
theorem wd_1275 : (Jvm.Cond.codeWith ({ cls := "AisleSchedulerLaw", name := "errorPosition", desc := "(LAisleScheduler;[J)I" } : Jvm.MethodName) method_36_code (3 : Nat) (Option.some Jvm.ClassFile.FieldType.int) [((0 : Nat), (8 : Nat), (11 : Nat), (41 : Nat))]) ∈ am_TB := am_tb1 1275 (by decide +kernel) (by decide +kernel)
theorem wd_1281 : (Jvm.Cond.methodLink "AisleSchedulerLaw" (269 : Nat) ({ cls := "AisleSchedulerLaw", name := "restore", desc := "(LAisleScheduler;[J)I" } : Jvm.MethodName)) ∈ am_TB := am_tb1 1281 (by decide +kernel) (by decide +kernel)
theorem wd_1282 : (Jvm.Cond.static ({ cls := "AisleSchedulerLaw", name := "restore", desc := "(LAisleScheduler;[J)I" } : Jvm.MethodName)) ∈ am_TB := am_tb1 1282 (by decide +kernel) (by decide +kernel)
theorem wd_1283 : (Jvm.Cond.codeWith ({ cls := "AisleSchedulerLaw", name := "restore", desc := "(LAisleScheduler;[J)I" } : Jvm.MethodName) method_37_code (3 : Nat) (Option.some Jvm.ClassFile.FieldType.int) [((0 : Nat), (8 : Nat), (11 : Nat), (17 : Nat))]) ∈ am_TB := am_tb1 1283 (by decide +kernel) (by decide +kernel)
theorem wd_1360 : (Jvm.Cond.methodLink "AisleSchedulerLaw" (148 : Nat) ({ cls := "AisleSchedulerModel", name := "thrown", desc := "()I" } : Jvm.MethodName)) ∈ am_TB := am_tb1 1360 (by decide +kernel) (by decide +kernel)
theorem wd_1361 : (Jvm.Cond.instanceMethod ({ cls := "AisleSchedulerModel", name := "thrown", desc := "()I" } : Jvm.MethodName)) ∈ am_TB := am_tb1 1361 (by decide +kernel) (by decide +kernel)
theorem wd_1362 : (Jvm.Cond.selects "AisleSchedulerModel" ({ cls := "AisleSchedulerModel", name := "thrown", desc := "()I" } : Jvm.MethodName) ({ cls := "AisleSchedulerModel", name := "thrown", desc := "()I" } : Jvm.MethodName)) ∈ am_TB := am_tb1 1362 (by decide +kernel) (by decide +kernel)
theorem wd_1363 : (Jvm.Cond.code ({ cls := "AisleSchedulerModel", name := "thrown", desc := "()I" } : Jvm.MethodName) prog_12_method_2_code (1 : Nat) (Option.some Jvm.ClassFile.FieldType.int)) ∈ am_TB := am_tb1 1363 (by decide +kernel) (by decide +kernel)
theorem wd_1364 : (Jvm.Cond.methodLink "AisleSchedulerLaw" (141 : Nat) ({ cls := "AisleSchedulerModel", name := "clear", desc := "()I" } : Jvm.MethodName)) ∈ am_TB := am_tb1 1364 (by decide +kernel) (by decide +kernel)
theorem wd_1365 : (Jvm.Cond.instanceMethod ({ cls := "AisleSchedulerModel", name := "clear", desc := "()I" } : Jvm.MethodName)) ∈ am_TB := am_tb1 1365 (by decide +kernel) (by decide +kernel)
theorem wd_1366 : (Jvm.Cond.selects "AisleSchedulerModel" ({ cls := "AisleSchedulerModel", name := "clear", desc := "()I" } : Jvm.MethodName) ({ cls := "AisleSchedulerModel", name := "clear", desc := "()I" } : Jvm.MethodName)) ∈ am_TB := am_tb1 1366 (by decide +kernel) (by decide +kernel)
theorem wd_1367 : (Jvm.Cond.code ({ cls := "AisleSchedulerModel", name := "clear", desc := "()I" } : Jvm.MethodName) prog_12_method_40_code (2 : Nat) (Option.some Jvm.ClassFile.FieldType.int)) ∈ am_TB := am_tb1 1367 (by decide +kernel) (by decide +kernel)
theorem wd_1372 : (Jvm.Cond.methodLink "AisleSchedulerLaw" (147 : Nat) ({ cls := "AisleSchedulerModel", name := "setCell", desc := "(II)I" } : Jvm.MethodName)) ∈ am_TB := am_tb1 1372 (by decide +kernel) (by decide +kernel)
theorem wd_1421 : (Jvm.Cond.methodLink "AisleSchedulerLaw" (154 : Nat) ({ cls := "AisleSchedulerModel", name := "cell", desc := "(I)I" } : Jvm.MethodName)) ∈ am_TB := am_tb1 1421 (by decide +kernel) (by decide +kernel)
theorem wd_1422 : (Jvm.Cond.instanceMethod ({ cls := "AisleSchedulerModel", name := "cell", desc := "(I)I" } : Jvm.MethodName)) ∈ am_TB := am_tb1 1422 (by decide +kernel) (by decide +kernel)
theorem wd_1423 : (Jvm.Cond.selects "AisleSchedulerModel" ({ cls := "AisleSchedulerModel", name := "cell", desc := "(I)I" } : Jvm.MethodName) ({ cls := "AisleSchedulerModel", name := "cell", desc := "(I)I" } : Jvm.MethodName)) ∈ am_TB := am_tb1 1423 (by decide +kernel) (by decide +kernel)
theorem wd_1424 : (Jvm.Cond.code ({ cls := "AisleSchedulerModel", name := "cell", desc := "(I)I" } : Jvm.MethodName) prog_12_method_43_code (2 : Nat) (Option.some Jvm.ClassFile.FieldType.int)) ∈ am_TB := am_tb1 1424 (by decide +kernel) (by decide +kernel)
theorem wd_1425 : (Jvm.Cond.methodLink "AisleSchedulerLaw" (157 : Nat) ({ cls := "AisleSchedulerModel", name := "addLift", desc := "(II)I" } : Jvm.MethodName)) ∈ am_TB := am_tb1 1425 (by decide +kernel) (by decide +kernel)
theorem wd_1433 : (Jvm.Cond.methodLink "AisleSchedulerLaw" (160 : Nat) ({ cls := "AisleSchedulerModel", name := "addRobot", desc := "(II)I" } : Jvm.MethodName)) ∈ am_TB := am_tb1 1433 (by decide +kernel) (by decide +kernel)
theorem wd_1441 : (Jvm.Cond.methodLink "AisleSchedulerLaw" (163 : Nat) ({ cls := "AisleSchedulerModel", name := "robot", desc := "(II)I" } : Jvm.MethodName)) ∈ am_TB := am_tb1 1441 (by decide +kernel) (by decide +kernel)
theorem wd_1442 : (Jvm.Cond.instanceMethod ({ cls := "AisleSchedulerModel", name := "robot", desc := "(II)I" } : Jvm.MethodName)) ∈ am_TB := am_tb1 1442 (by decide +kernel) (by decide +kernel)
theorem wd_1443 : (Jvm.Cond.selects "AisleSchedulerModel" ({ cls := "AisleSchedulerModel", name := "robot", desc := "(II)I" } : Jvm.MethodName) ({ cls := "AisleSchedulerModel", name := "robot", desc := "(II)I" } : Jvm.MethodName)) ∈ am_TB := am_tb1 1443 (by decide +kernel) (by decide +kernel)
theorem wd_1444 : (Jvm.Cond.code ({ cls := "AisleSchedulerModel", name := "robot", desc := "(II)I" } : Jvm.MethodName) prog_12_method_47_code (3 : Nat) (Option.some Jvm.ClassFile.FieldType.int)) ∈ am_TB := am_tb1 1444 (by decide +kernel) (by decide +kernel)
theorem wd_1464 : (Jvm.Cond.methodLink "AisleSchedulerLaw" (166 : Nat) ({ cls := "AisleSchedulerModel", name := "count", desc := "(I)I" } : Jvm.MethodName)) ∈ am_TB := am_tb1 1464 (by decide +kernel) (by decide +kernel)
theorem wd_1465 : (Jvm.Cond.instanceMethod ({ cls := "AisleSchedulerModel", name := "count", desc := "(I)I" } : Jvm.MethodName)) ∈ am_TB := am_tb1 1465 (by decide +kernel) (by decide +kernel)
theorem wd_1466 : (Jvm.Cond.selects "AisleSchedulerModel" ({ cls := "AisleSchedulerModel", name := "count", desc := "(I)I" } : Jvm.MethodName) ({ cls := "AisleSchedulerModel", name := "count", desc := "(I)I" } : Jvm.MethodName)) ∈ am_TB := am_tb1 1466 (by decide +kernel) (by decide +kernel)
theorem wd_1467 : (Jvm.Cond.code ({ cls := "AisleSchedulerModel", name := "count", desc := "(I)I" } : Jvm.MethodName) prog_12_method_49_code (2 : Nat) (Option.some Jvm.ClassFile.FieldType.int)) ∈ am_TB := am_tb1 1467 (by decide +kernel) (by decide +kernel)
theorem wd_1472 : (Jvm.Cond.methodLink "AisleSchedulerLaw" (169 : Nat) ({ cls := "AisleSchedulerModel", name := "region", desc := "(I)I" } : Jvm.MethodName)) ∈ am_TB := am_tb1 1472 (by decide +kernel) (by decide +kernel)
theorem wd_1473 : (Jvm.Cond.instanceMethod ({ cls := "AisleSchedulerModel", name := "region", desc := "(I)I" } : Jvm.MethodName)) ∈ am_TB := am_tb1 1473 (by decide +kernel) (by decide +kernel)
theorem wd_1474 : (Jvm.Cond.selects "AisleSchedulerModel" ({ cls := "AisleSchedulerModel", name := "region", desc := "(I)I" } : Jvm.MethodName) ({ cls := "AisleSchedulerModel", name := "region", desc := "(I)I" } : Jvm.MethodName)) ∈ am_TB := am_tb1 1474 (by decide +kernel) (by decide +kernel)
theorem wd_1475 : (Jvm.Cond.code ({ cls := "AisleSchedulerModel", name := "region", desc := "(I)I" } : Jvm.MethodName) prog_12_method_52_code (4 : Nat) (Option.some Jvm.ClassFile.FieldType.int)) ∈ am_TB := am_tb1 1475 (by decide +kernel) (by decide +kernel)
theorem wd_1486 : (Jvm.Cond.methodLink "AisleSchedulerLaw" (172 : Nat) ({ cls := "AisleSchedulerModel", name := "ticksBetween", desc := "(II)I" } : Jvm.MethodName)) ∈ am_TB := am_tb1 1486 (by decide +kernel) (by decide +kernel)
theorem wd_1487 : (Jvm.Cond.instanceMethod ({ cls := "AisleSchedulerModel", name := "ticksBetween", desc := "(II)I" } : Jvm.MethodName)) ∈ am_TB := am_tb1 1487 (by decide +kernel) (by decide +kernel)
theorem wd_1488 : (Jvm.Cond.selects "AisleSchedulerModel" ({ cls := "AisleSchedulerModel", name := "ticksBetween", desc := "(II)I" } : Jvm.MethodName) ({ cls := "AisleSchedulerModel", name := "ticksBetween", desc := "(II)I" } : Jvm.MethodName)) ∈ am_TB := am_tb1 1488 (by decide +kernel) (by decide +kernel)
theorem wd_1489 : (Jvm.Cond.code ({ cls := "AisleSchedulerModel", name := "ticksBetween", desc := "(II)I" } : Jvm.MethodName) prog_12_method_53_code (3 : Nat) (Option.some Jvm.ClassFile.FieldType.int)) ∈ am_TB := am_tb1 1489 (by decide +kernel) (by decide +kernel)
theorem wd_1490 : (Jvm.Cond.methodLink "AisleSchedulerLaw" (175 : Nat) ({ cls := "AisleSchedulerModel", name := "plan", desc := "(II)I" } : Jvm.MethodName)) ∈ am_TB := am_tb1 1490 (by decide +kernel) (by decide +kernel)
theorem wd_1558 : (Jvm.Cond.methodLink "AisleSchedulerLaw" (178 : Nat) ({ cls := "AisleSchedulerModel", name := "arrival", desc := "(II)I" } : Jvm.MethodName)) ∈ am_TB := am_tb1 1558 (by decide +kernel) (by decide +kernel)
theorem wd_1559 : (Jvm.Cond.instanceMethod ({ cls := "AisleSchedulerModel", name := "arrival", desc := "(II)I" } : Jvm.MethodName)) ∈ am_TB := am_tb1 1559 (by decide +kernel) (by decide +kernel)
theorem wd_1560 : (Jvm.Cond.selects "AisleSchedulerModel" ({ cls := "AisleSchedulerModel", name := "arrival", desc := "(II)I" } : Jvm.MethodName) ({ cls := "AisleSchedulerModel", name := "arrival", desc := "(II)I" } : Jvm.MethodName)) ∈ am_TB := am_tb1 1560 (by decide +kernel) (by decide +kernel)
theorem wd_1561 : (Jvm.Cond.code ({ cls := "AisleSchedulerModel", name := "arrival", desc := "(II)I" } : Jvm.MethodName) prog_12_method_56_code (3 : Nat) (Option.some Jvm.ClassFile.FieldType.int)) ∈ am_TB := am_tb1 1561 (by decide +kernel) (by decide +kernel)
theorem wd_1562 : (Jvm.Cond.methodLink "AisleSchedulerLaw" (181 : Nat) ({ cls := "AisleSchedulerModel", name := "routeCost", desc := "(II)I" } : Jvm.MethodName)) ∈ am_TB := am_tb1 1562 (by decide +kernel) (by decide +kernel)
theorem wd_1563 : (Jvm.Cond.instanceMethod ({ cls := "AisleSchedulerModel", name := "routeCost", desc := "(II)I" } : Jvm.MethodName)) ∈ am_TB := am_tb1 1563 (by decide +kernel) (by decide +kernel)
theorem wd_1564 : (Jvm.Cond.selects "AisleSchedulerModel" ({ cls := "AisleSchedulerModel", name := "routeCost", desc := "(II)I" } : Jvm.MethodName) ({ cls := "AisleSchedulerModel", name := "routeCost", desc := "(II)I" } : Jvm.MethodName)) ∈ am_TB := am_tb1 1564 (by decide +kernel) (by decide +kernel)
theorem wd_1565 : (Jvm.Cond.code ({ cls := "AisleSchedulerModel", name := "routeCost", desc := "(II)I" } : Jvm.MethodName) prog_12_method_57_code (3 : Nat) (Option.some Jvm.ClassFile.FieldType.int)) ∈ am_TB := am_tb1 1565 (by decide +kernel) (by decide +kernel)
theorem wd_1566 : (Jvm.Cond.methodLink "AisleSchedulerLaw" (184 : Nat) ({ cls := "AisleSchedulerModel", name := "action", desc := "(II)I" } : Jvm.MethodName)) ∈ am_TB := am_tb1 1566 (by decide +kernel) (by decide +kernel)
theorem wd_1567 : (Jvm.Cond.instanceMethod ({ cls := "AisleSchedulerModel", name := "action", desc := "(II)I" } : Jvm.MethodName)) ∈ am_TB := am_tb1 1567 (by decide +kernel) (by decide +kernel)
theorem wd_1568 : (Jvm.Cond.selects "AisleSchedulerModel" ({ cls := "AisleSchedulerModel", name := "action", desc := "(II)I" } : Jvm.MethodName) ({ cls := "AisleSchedulerModel", name := "action", desc := "(II)I" } : Jvm.MethodName)) ∈ am_TB := am_tb1 1568 (by decide +kernel) (by decide +kernel)
theorem wd_1569 : (Jvm.Cond.code ({ cls := "AisleSchedulerModel", name := "action", desc := "(II)I" } : Jvm.MethodName) prog_12_method_58_code (3 : Nat) (Option.some Jvm.ClassFile.FieldType.int)) ∈ am_TB := am_tb1 1569 (by decide +kernel) (by decide +kernel)
theorem wd_1570 : (Jvm.Cond.methodLink "AisleSchedulerLaw" (187 : Nat) ({ cls := "AisleSchedulerModel", name := "cellAfter", desc := "(II)I" } : Jvm.MethodName)) ∈ am_TB := am_tb1 1570 (by decide +kernel) (by decide +kernel)
theorem wd_1571 : (Jvm.Cond.instanceMethod ({ cls := "AisleSchedulerModel", name := "cellAfter", desc := "(II)I" } : Jvm.MethodName)) ∈ am_TB := am_tb1 1571 (by decide +kernel) (by decide +kernel)
theorem wd_1572 : (Jvm.Cond.selects "AisleSchedulerModel" ({ cls := "AisleSchedulerModel", name := "cellAfter", desc := "(II)I" } : Jvm.MethodName) ({ cls := "AisleSchedulerModel", name := "cellAfter", desc := "(II)I" } : Jvm.MethodName)) ∈ am_TB := am_tb1 1572 (by decide +kernel) (by decide +kernel)
theorem wd_1573 : (Jvm.Cond.code ({ cls := "AisleSchedulerModel", name := "cellAfter", desc := "(II)I" } : Jvm.MethodName) prog_12_method_59_code (3 : Nat) (Option.some Jvm.ClassFile.FieldType.int)) ∈ am_TB := am_tb1 1573 (by decide +kernel) (by decide +kernel)
theorem wd_1574 : (Jvm.Cond.methodLink "AisleSchedulerLaw" (190 : Nat) ({ cls := "AisleSchedulerModel", name := "robotAt", desc := "(II)I" } : Jvm.MethodName)) ∈ am_TB := am_tb1 1574 (by decide +kernel) (by decide +kernel)
theorem wd_1575 : (Jvm.Cond.instanceMethod ({ cls := "AisleSchedulerModel", name := "robotAt", desc := "(II)I" } : Jvm.MethodName)) ∈ am_TB := am_tb1 1575 (by decide +kernel) (by decide +kernel)
theorem wd_1576 : (Jvm.Cond.selects "AisleSchedulerModel" ({ cls := "AisleSchedulerModel", name := "robotAt", desc := "(II)I" } : Jvm.MethodName) ({ cls := "AisleSchedulerModel", name := "robotAt", desc := "(II)I" } : Jvm.MethodName)) ∈ am_TB := am_tb1 1576 (by decide +kernel) (by decide +kernel)
theorem wd_1577 : (Jvm.Cond.code ({ cls := "AisleSchedulerModel", name := "robotAt", desc := "(II)I" } : Jvm.MethodName) prog_12_method_60_code (4 : Nat) (Option.some Jvm.ClassFile.FieldType.int)) ∈ am_TB := am_tb1 1577 (by decide +kernel) (by decide +kernel)
theorem wd_1578 : (Jvm.Cond.methodLink "AisleSchedulerLaw" (193 : Nat) ({ cls := "AisleSchedulerModel", name := "cancel", desc := "(I)I" } : Jvm.MethodName)) ∈ am_TB := am_tb1 1578 (by decide +kernel) (by decide +kernel)
theorem wd_1579 : (Jvm.Cond.instanceMethod ({ cls := "AisleSchedulerModel", name := "cancel", desc := "(I)I" } : Jvm.MethodName)) ∈ am_TB := am_tb1 1579 (by decide +kernel) (by decide +kernel)
theorem wd_1580 : (Jvm.Cond.selects "AisleSchedulerModel" ({ cls := "AisleSchedulerModel", name := "cancel", desc := "(I)I" } : Jvm.MethodName) ({ cls := "AisleSchedulerModel", name := "cancel", desc := "(I)I" } : Jvm.MethodName)) ∈ am_TB := am_tb1 1580 (by decide +kernel) (by decide +kernel)
theorem wd_1581 : (Jvm.Cond.code ({ cls := "AisleSchedulerModel", name := "cancel", desc := "(I)I" } : Jvm.MethodName) prog_12_method_61_code (3 : Nat) (Option.some Jvm.ClassFile.FieldType.int)) ∈ am_TB := am_tb1 1581 (by decide +kernel) (by decide +kernel)
theorem wd_1582 : (Jvm.Cond.methodLink "AisleSchedulerLaw" (196 : Nat) ({ cls := "AisleSchedulerModel", name := "blockers", desc := "(II)I" } : Jvm.MethodName)) ∈ am_TB := am_tb1 1582 (by decide +kernel) (by decide +kernel)
theorem wd_1583 : (Jvm.Cond.instanceMethod ({ cls := "AisleSchedulerModel", name := "blockers", desc := "(II)I" } : Jvm.MethodName)) ∈ am_TB := am_tb1 1583 (by decide +kernel) (by decide +kernel)
theorem wd_1584 : (Jvm.Cond.selects "AisleSchedulerModel" ({ cls := "AisleSchedulerModel", name := "blockers", desc := "(II)I" } : Jvm.MethodName) ({ cls := "AisleSchedulerModel", name := "blockers", desc := "(II)I" } : Jvm.MethodName)) ∈ am_TB := am_tb1 1584 (by decide +kernel) (by decide +kernel)
theorem wd_1585 : (Jvm.Cond.code ({ cls := "AisleSchedulerModel", name := "blockers", desc := "(II)I" } : Jvm.MethodName) prog_12_method_62_code (5 : Nat) (Option.some Jvm.ClassFile.FieldType.int)) ∈ am_TB := am_tb1 1585 (by decide +kernel) (by decide +kernel)
theorem wd_1586 : (Jvm.Cond.methodLink "AisleSchedulerLaw" (199 : Nat) ({ cls := "AisleSchedulerModel", name := "makeWay", desc := "(II)I" } : Jvm.MethodName)) ∈ am_TB := am_tb1 1586 (by decide +kernel) (by decide +kernel)
theorem wd_1587 : (Jvm.Cond.instanceMethod ({ cls := "AisleSchedulerModel", name := "makeWay", desc := "(II)I" } : Jvm.MethodName)) ∈ am_TB := am_tb1 1587 (by decide +kernel) (by decide +kernel)
theorem wd_1588 : (Jvm.Cond.selects "AisleSchedulerModel" ({ cls := "AisleSchedulerModel", name := "makeWay", desc := "(II)I" } : Jvm.MethodName) ({ cls := "AisleSchedulerModel", name := "makeWay", desc := "(II)I" } : Jvm.MethodName)) ∈ am_TB := am_tb1 1588 (by decide +kernel) (by decide +kernel)
theorem wd_1589 : (Jvm.Cond.code ({ cls := "AisleSchedulerModel", name := "makeWay", desc := "(II)I" } : Jvm.MethodName) prog_12_method_65_code (6 : Nat) (Option.some Jvm.ClassFile.FieldType.int)) ∈ am_TB := am_tb1 1589 (by decide +kernel) (by decide +kernel)
theorem wd_1602 : (Jvm.Cond.methodLink "AisleSchedulerLaw" (202 : Nat) ({ cls := "AisleSchedulerModel", name := "planToCharger", desc := "(I)I" } : Jvm.MethodName)) ∈ am_TB := am_tb1 1602 (by decide +kernel) (by decide +kernel)
theorem wd_1603 : (Jvm.Cond.instanceMethod ({ cls := "AisleSchedulerModel", name := "planToCharger", desc := "(I)I" } : Jvm.MethodName)) ∈ am_TB := am_tb1 1603 (by decide +kernel) (by decide +kernel)
theorem wd_1604 : (Jvm.Cond.selects "AisleSchedulerModel" ({ cls := "AisleSchedulerModel", name := "planToCharger", desc := "(I)I" } : Jvm.MethodName) ({ cls := "AisleSchedulerModel", name := "planToCharger", desc := "(I)I" } : Jvm.MethodName)) ∈ am_TB := am_tb1 1604 (by decide +kernel) (by decide +kernel)
theorem wd_1605 : (Jvm.Cond.code ({ cls := "AisleSchedulerModel", name := "planToCharger", desc := "(I)I" } : Jvm.MethodName) prog_12_method_66_code (5 : Nat) (Option.some Jvm.ClassFile.FieldType.int)) ∈ am_TB := am_tb1 1605 (by decide +kernel) (by decide +kernel)
theorem wd_1607 : (Jvm.Cond.methodLink "AisleSchedulerLaw" (206 : Nat) ({ cls := "AisleSchedulerModel", name := "addTask", desc := "(IIII)I" } : Jvm.MethodName)) ∈ am_TB := am_tb1 1607 (by decide +kernel) (by decide +kernel)
theorem wd_1608 : (Jvm.Cond.instanceMethod ({ cls := "AisleSchedulerModel", name := "addTask", desc := "(IIII)I" } : Jvm.MethodName)) ∈ am_TB := am_tb1 1608 (by decide +kernel) (by decide +kernel)
theorem wd_1609 : (Jvm.Cond.selects "AisleSchedulerModel" ({ cls := "AisleSchedulerModel", name := "addTask", desc := "(IIII)I" } : Jvm.MethodName) ({ cls := "AisleSchedulerModel", name := "addTask", desc := "(IIII)I" } : Jvm.MethodName)) ∈ am_TB := am_tb1 1609 (by decide +kernel) (by decide +kernel)
theorem wd_1610 : (Jvm.Cond.code ({ cls := "AisleSchedulerModel", name := "addTask", desc := "(IIII)I" } : Jvm.MethodName) prog_12_method_67_code (6 : Nat) (Option.some Jvm.ClassFile.FieldType.int)) ∈ am_TB := am_tb1 1610 (by decide +kernel) (by decide +kernel)
theorem wd_1611 : (Jvm.Cond.methodLink "AisleSchedulerLaw" (209 : Nat) ({ cls := "AisleSchedulerModel", name := "serve", desc := "(II)I" } : Jvm.MethodName)) ∈ am_TB := am_tb1 1611 (by decide +kernel) (by decide +kernel)
theorem wd_1612 : (Jvm.Cond.instanceMethod ({ cls := "AisleSchedulerModel", name := "serve", desc := "(II)I" } : Jvm.MethodName)) ∈ am_TB := am_tb1 1612 (by decide +kernel) (by decide +kernel)
theorem wd_1613 : (Jvm.Cond.selects "AisleSchedulerModel" ({ cls := "AisleSchedulerModel", name := "serve", desc := "(II)I" } : Jvm.MethodName) ({ cls := "AisleSchedulerModel", name := "serve", desc := "(II)I" } : Jvm.MethodName)) ∈ am_TB := am_tb1 1613 (by decide +kernel) (by decide +kernel)
theorem wd_1614 : (Jvm.Cond.code ({ cls := "AisleSchedulerModel", name := "serve", desc := "(II)I" } : Jvm.MethodName) prog_12_method_70_code (4 : Nat) (Option.some Jvm.ClassFile.FieldType.int)) ∈ am_TB := am_tb1 1614 (by decide +kernel) (by decide +kernel)
theorem wd_1636 : (Jvm.Cond.methodLink "AisleSchedulerLaw" (212 : Nat) ({ cls := "AisleSchedulerModel", name := "bestRobot", desc := "(I)I" } : Jvm.MethodName)) ∈ am_TB := am_tb1 1636 (by decide +kernel) (by decide +kernel)
theorem wd_1637 : (Jvm.Cond.instanceMethod ({ cls := "AisleSchedulerModel", name := "bestRobot", desc := "(I)I" } : Jvm.MethodName)) ∈ am_TB := am_tb1 1637 (by decide +kernel) (by decide +kernel)
theorem wd_1638 : (Jvm.Cond.selects "AisleSchedulerModel" ({ cls := "AisleSchedulerModel", name := "bestRobot", desc := "(I)I" } : Jvm.MethodName) ({ cls := "AisleSchedulerModel", name := "bestRobot", desc := "(I)I" } : Jvm.MethodName)) ∈ am_TB := am_tb1 1638 (by decide +kernel) (by decide +kernel)
theorem wd_1639 : (Jvm.Cond.code ({ cls := "AisleSchedulerModel", name := "bestRobot", desc := "(I)I" } : Jvm.MethodName) prog_12_method_73_code (3 : Nat) (Option.some Jvm.ClassFile.FieldType.int)) ∈ am_TB := am_tb1 1639 (by decide +kernel) (by decide +kernel)
theorem wd_1644 : (Jvm.Cond.methodLink "AisleSchedulerLaw" (215 : Nat) ({ cls := "AisleSchedulerModel", name := "task", desc := "(II)I" } : Jvm.MethodName)) ∈ am_TB := am_tb1 1644 (by decide +kernel) (by decide +kernel)
theorem wd_1645 : (Jvm.Cond.instanceMethod ({ cls := "AisleSchedulerModel", name := "task", desc := "(II)I" } : Jvm.MethodName)) ∈ am_TB := am_tb1 1645 (by decide +kernel) (by decide +kernel)
theorem wd_1646 : (Jvm.Cond.selects "AisleSchedulerModel" ({ cls := "AisleSchedulerModel", name := "task", desc := "(II)I" } : Jvm.MethodName) ({ cls := "AisleSchedulerModel", name := "task", desc := "(II)I" } : Jvm.MethodName)) ∈ am_TB := am_tb1 1646 (by decide +kernel) (by decide +kernel)
theorem wd_1647 : (Jvm.Cond.code ({ cls := "AisleSchedulerModel", name := "task", desc := "(II)I" } : Jvm.MethodName) prog_12_method_74_code (3 : Nat) (Option.some Jvm.ClassFile.FieldType.int)) ∈ am_TB := am_tb1 1647 (by decide +kernel) (by decide +kernel)
theorem wd_1648 : (Jvm.Cond.methodLink "AisleSchedulerLaw" (219 : Nat) ({ cls := "AisleSchedulerModel", name := "assignAll", desc := "()I" } : Jvm.MethodName)) ∈ am_TB := am_tb1 1648 (by decide +kernel) (by decide +kernel)
theorem wd_1649 : (Jvm.Cond.instanceMethod ({ cls := "AisleSchedulerModel", name := "assignAll", desc := "()I" } : Jvm.MethodName)) ∈ am_TB := am_tb1 1649 (by decide +kernel) (by decide +kernel)
theorem wd_1650 : (Jvm.Cond.selects "AisleSchedulerModel" ({ cls := "AisleSchedulerModel", name := "assignAll", desc := "()I" } : Jvm.MethodName) ({ cls := "AisleSchedulerModel", name := "assignAll", desc := "()I" } : Jvm.MethodName)) ∈ am_TB := am_tb1 1650 (by decide +kernel) (by decide +kernel)
theorem wd_1651 : (Jvm.Cond.code ({ cls := "AisleSchedulerModel", name := "assignAll", desc := "()I" } : Jvm.MethodName) prog_12_method_75_code (5 : Nat) (Option.some Jvm.ClassFile.FieldType.int)) ∈ am_TB := am_tb1 1651 (by decide +kernel) (by decide +kernel)
theorem wd_1652 : (Jvm.Cond.methodLink "AisleSchedulerLaw" (222 : Nat) ({ cls := "AisleSchedulerModel", name := "tasksIn", desc := "(I)I" } : Jvm.MethodName)) ∈ am_TB := am_tb1 1652 (by decide +kernel) (by decide +kernel)
theorem wd_1653 : (Jvm.Cond.instanceMethod ({ cls := "AisleSchedulerModel", name := "tasksIn", desc := "(I)I" } : Jvm.MethodName)) ∈ am_TB := am_tb1 1653 (by decide +kernel) (by decide +kernel)
theorem wd_1654 : (Jvm.Cond.selects "AisleSchedulerModel" ({ cls := "AisleSchedulerModel", name := "tasksIn", desc := "(I)I" } : Jvm.MethodName) ({ cls := "AisleSchedulerModel", name := "tasksIn", desc := "(I)I" } : Jvm.MethodName)) ∈ am_TB := am_tb1 1654 (by decide +kernel) (by decide +kernel)
theorem wd_1655 : (Jvm.Cond.code ({ cls := "AisleSchedulerModel", name := "tasksIn", desc := "(I)I" } : Jvm.MethodName) prog_12_method_76_code (4 : Nat) (Option.some Jvm.ClassFile.FieldType.int)) ∈ am_TB := am_tb1 1655 (by decide +kernel) (by decide +kernel)
theorem wd_1656 : (Jvm.Cond.methodLink "AisleSchedulerLaw" (225 : Nat) ({ cls := "AisleSchedulerModel", name := "advance", desc := "(I)I" } : Jvm.MethodName)) ∈ am_TB := am_tb1 1656 (by decide +kernel) (by decide +kernel)
theorem wd_1657 : (Jvm.Cond.instanceMethod ({ cls := "AisleSchedulerModel", name := "advance", desc := "(I)I" } : Jvm.MethodName)) ∈ am_TB := am_tb1 1657 (by decide +kernel) (by decide +kernel)
theorem wd_1658 : (Jvm.Cond.selects "AisleSchedulerModel" ({ cls := "AisleSchedulerModel", name := "advance", desc := "(I)I" } : Jvm.MethodName) ({ cls := "AisleSchedulerModel", name := "advance", desc := "(I)I" } : Jvm.MethodName)) ∈ am_TB := am_tb1 1658 (by decide +kernel) (by decide +kernel)
theorem wd_1659 : (Jvm.Cond.code ({ cls := "AisleSchedulerModel", name := "advance", desc := "(I)I" } : Jvm.MethodName) prog_12_method_82_code (4 : Nat) (Option.some Jvm.ClassFile.FieldType.int)) ∈ am_TB := am_tb1 1659 (by decide +kernel) (by decide +kernel)
theorem wd_1684 : (Jvm.Cond.methodLink "AisleSchedulerLaw" (228 : Nat) ({ cls := "AisleSchedulerModel", name := "statistic", desc := "(II)I" } : Jvm.MethodName)) ∈ am_TB := am_tb1 1684 (by decide +kernel) (by decide +kernel)
theorem wd_1685 : (Jvm.Cond.instanceMethod ({ cls := "AisleSchedulerModel", name := "statistic", desc := "(II)I" } : Jvm.MethodName)) ∈ am_TB := am_tb1 1685 (by decide +kernel) (by decide +kernel)
theorem wd_1686 : (Jvm.Cond.selects "AisleSchedulerModel" ({ cls := "AisleSchedulerModel", name := "statistic", desc := "(II)I" } : Jvm.MethodName) ({ cls := "AisleSchedulerModel", name := "statistic", desc := "(II)I" } : Jvm.MethodName)) ∈ am_TB := am_tb1 1686 (by decide +kernel) (by decide +kernel)
theorem wd_1687 : (Jvm.Cond.code ({ cls := "AisleSchedulerModel", name := "statistic", desc := "(II)I" } : Jvm.MethodName) prog_12_method_83_code (3 : Nat) (Option.some Jvm.ClassFile.FieldType.int)) ∈ am_TB := am_tb1 1687 (by decide +kernel) (by decide +kernel)
theorem wd_1688 : (Jvm.Cond.methodLink "AisleSchedulerLaw" (232 : Nat) ({ cls := "AisleSchedulerModel", name := "activity", desc := "(I)F" } : Jvm.MethodName)) ∈ am_TB := am_tb1 1688 (by decide +kernel) (by decide +kernel)
theorem wd_1689 : (Jvm.Cond.instanceMethod ({ cls := "AisleSchedulerModel", name := "activity", desc := "(I)F" } : Jvm.MethodName)) ∈ am_TB := am_tb1 1689 (by decide +kernel) (by decide +kernel)
theorem wd_1690 : (Jvm.Cond.selects "AisleSchedulerModel" ({ cls := "AisleSchedulerModel", name := "activity", desc := "(I)F" } : Jvm.MethodName) ({ cls := "AisleSchedulerModel", name := "activity", desc := "(I)F" } : Jvm.MethodName)) ∈ am_TB := am_tb1 1690 (by decide +kernel) (by decide +kernel)
theorem wd_1691 : (Jvm.Cond.code ({ cls := "AisleSchedulerModel", name := "activity", desc := "(I)F" } : Jvm.MethodName) prog_12_method_86_code (2 : Nat) (Option.some Jvm.ClassFile.FieldType.float)) ∈ am_TB := am_tb1 1691 (by decide +kernel) (by decide +kernel)
theorem wd_1700 : (Jvm.Cond.methodLink "AisleSchedulerLaw" (235 : Nat) ({ cls := "AisleSchedulerModel", name := "activityBits", desc := "(I)I" } : Jvm.MethodName)) ∈ am_TB := am_tb1 1700 (by decide +kernel) (by decide +kernel)
theorem wd_1701 : (Jvm.Cond.instanceMethod ({ cls := "AisleSchedulerModel", name := "activityBits", desc := "(I)I" } : Jvm.MethodName)) ∈ am_TB := am_tb1 1701 (by decide +kernel) (by decide +kernel)
theorem wd_1702 : (Jvm.Cond.selects "AisleSchedulerModel" ({ cls := "AisleSchedulerModel", name := "activityBits", desc := "(I)I" } : Jvm.MethodName) ({ cls := "AisleSchedulerModel", name := "activityBits", desc := "(I)I" } : Jvm.MethodName)) ∈ am_TB := am_tb1 1702 (by decide +kernel) (by decide +kernel)
theorem wd_1703 : (Jvm.Cond.code ({ cls := "AisleSchedulerModel", name := "activityBits", desc := "(I)I" } : Jvm.MethodName) prog_12_method_87_code (2 : Nat) (Option.some Jvm.ClassFile.FieldType.int)) ∈ am_TB := am_tb1 1703 (by decide +kernel) (by decide +kernel)
theorem wd_1714 : (Jvm.Cond.methodLink "AisleSchedulerLaw" (239 : Nat) ({ cls := "AisleSchedulerModel", name := "averageDelay", desc := "()D" } : Jvm.MethodName)) ∈ am_TB := am_tb1 1714 (by decide +kernel) (by decide +kernel)
theorem wd_1715 : (Jvm.Cond.instanceMethod ({ cls := "AisleSchedulerModel", name := "averageDelay", desc := "()D" } : Jvm.MethodName)) ∈ am_TB := am_tb1 1715 (by decide +kernel) (by decide +kernel)
theorem wd_1716 : (Jvm.Cond.selects "AisleSchedulerModel" ({ cls := "AisleSchedulerModel", name := "averageDelay", desc := "()D" } : Jvm.MethodName) ({ cls := "AisleSchedulerModel", name := "averageDelay", desc := "()D" } : Jvm.MethodName)) ∈ am_TB := am_tb1 1716 (by decide +kernel) (by decide +kernel)
theorem wd_1717 : (Jvm.Cond.code ({ cls := "AisleSchedulerModel", name := "averageDelay", desc := "()D" } : Jvm.MethodName) prog_12_method_88_code (4 : Nat) (Option.some Jvm.ClassFile.FieldType.double)) ∈ am_TB := am_tb1 1717 (by decide +kernel) (by decide +kernel)
theorem wd_1718 : (Jvm.Cond.methodLink "AisleSchedulerLaw" (242 : Nat) ({ cls := "AisleSchedulerModel", name := "visits", desc := "(I)I" } : Jvm.MethodName)) ∈ am_TB := am_tb1 1718 (by decide +kernel) (by decide +kernel)
theorem wd_1719 : (Jvm.Cond.instanceMethod ({ cls := "AisleSchedulerModel", name := "visits", desc := "(I)I" } : Jvm.MethodName)) ∈ am_TB := am_tb1 1719 (by decide +kernel) (by decide +kernel)
theorem wd_1720 : (Jvm.Cond.selects "AisleSchedulerModel" ({ cls := "AisleSchedulerModel", name := "visits", desc := "(I)I" } : Jvm.MethodName) ({ cls := "AisleSchedulerModel", name := "visits", desc := "(I)I" } : Jvm.MethodName)) ∈ am_TB := am_tb1 1720 (by decide +kernel) (by decide +kernel)
theorem wd_1721 : (Jvm.Cond.code ({ cls := "AisleSchedulerModel", name := "visits", desc := "(I)I" } : Jvm.MethodName) prog_12_method_89_code (2 : Nat) (Option.some Jvm.ClassFile.FieldType.int)) ∈ am_TB := am_tb1 1721 (by decide +kernel) (by decide +kernel)
theorem wd_1722 : (Jvm.Cond.methodLink "AisleSchedulerLaw" (246 : Nat) ({ cls := "AisleSchedulerModel", name := "busiestCell", desc := "()I" } : Jvm.MethodName)) ∈ am_TB := am_tb1 1722 (by decide +kernel) (by decide +kernel)
theorem wd_1723 : (Jvm.Cond.instanceMethod ({ cls := "AisleSchedulerModel", name := "busiestCell", desc := "()I" } : Jvm.MethodName)) ∈ am_TB := am_tb1 1723 (by decide +kernel) (by decide +kernel)
theorem wd_1724 : (Jvm.Cond.selects "AisleSchedulerModel" ({ cls := "AisleSchedulerModel", name := "busiestCell", desc := "()I" } : Jvm.MethodName) ({ cls := "AisleSchedulerModel", name := "busiestCell", desc := "()I" } : Jvm.MethodName)) ∈ am_TB := am_tb1 1724 (by decide +kernel) (by decide +kernel)
theorem wd_1725 : (Jvm.Cond.code ({ cls := "AisleSchedulerModel", name := "busiestCell", desc := "()I" } : Jvm.MethodName) prog_12_method_90_code (3 : Nat) (Option.some Jvm.ClassFile.FieldType.int)) ∈ am_TB := am_tb1 1725 (by decide +kernel) (by decide +kernel)
theorem wd_1726 : (Jvm.Cond.methodLink "AisleSchedulerLaw" (250 : Nat) ({ cls := "AisleSchedulerModel", name := "sample", desc := "(III)I" } : Jvm.MethodName)) ∈ am_TB := am_tb1 1726 (by decide +kernel) (by decide +kernel)
theorem wd_1727 : (Jvm.Cond.instanceMethod ({ cls := "AisleSchedulerModel", name := "sample", desc := "(III)I" } : Jvm.MethodName)) ∈ am_TB := am_tb1 1727 (by decide +kernel) (by decide +kernel)
theorem wd_1728 : (Jvm.Cond.selects "AisleSchedulerModel" ({ cls := "AisleSchedulerModel", name := "sample", desc := "(III)I" } : Jvm.MethodName) ({ cls := "AisleSchedulerModel", name := "sample", desc := "(III)I" } : Jvm.MethodName)) ∈ am_TB := am_tb1 1728 (by decide +kernel) (by decide +kernel)
theorem wd_1729 : (Jvm.Cond.code ({ cls := "AisleSchedulerModel", name := "sample", desc := "(III)I" } : Jvm.MethodName) prog_12_method_92_code (7 : Nat) (Option.some Jvm.ClassFile.FieldType.int)) ∈ am_TB := am_tb1 1729 (by decide +kernel) (by decide +kernel)
theorem wd_1733 : (Jvm.Cond.methodLink "AisleSchedulerLaw" (253 : Nat) ({ cls := "AisleSchedulerModel", name := "sampled", desc := "(III)I" } : Jvm.MethodName)) ∈ am_TB := am_tb1 1733 (by decide +kernel) (by decide +kernel)
theorem wd_1734 : (Jvm.Cond.instanceMethod ({ cls := "AisleSchedulerModel", name := "sampled", desc := "(III)I" } : Jvm.MethodName)) ∈ am_TB := am_tb1 1734 (by decide +kernel) (by decide +kernel)
theorem wd_1735 : (Jvm.Cond.selects "AisleSchedulerModel" ({ cls := "AisleSchedulerModel", name := "sampled", desc := "(III)I" } : Jvm.MethodName) ({ cls := "AisleSchedulerModel", name := "sampled", desc := "(III)I" } : Jvm.MethodName)) ∈ am_TB := am_tb1 1735 (by decide +kernel) (by decide +kernel)
theorem wd_1736 : (Jvm.Cond.code ({ cls := "AisleSchedulerModel", name := "sampled", desc := "(III)I" } : Jvm.MethodName) prog_12_method_93_code (5 : Nat) (Option.some Jvm.ClassFile.FieldType.int)) ∈ am_TB := am_tb1 1736 (by decide +kernel) (by decide +kernel)
theorem wd_1737 : (Jvm.Cond.methodLink "AisleSchedulerLaw" (257 : Nat) ({ cls := "AisleSchedulerModel", name := "append", desc := "(C)I" } : Jvm.MethodName)) ∈ am_TB := am_tb1 1737 (by decide +kernel) (by decide +kernel)
theorem wd_1738 : (Jvm.Cond.instanceMethod ({ cls := "AisleSchedulerModel", name := "append", desc := "(C)I" } : Jvm.MethodName)) ∈ am_TB := am_tb1 1738 (by decide +kernel) (by decide +kernel)
theorem wd_1739 : (Jvm.Cond.selects "AisleSchedulerModel" ({ cls := "AisleSchedulerModel", name := "append", desc := "(C)I" } : Jvm.MethodName) ({ cls := "AisleSchedulerModel", name := "append", desc := "(C)I" } : Jvm.MethodName)) ∈ am_TB := am_tb1 1739 (by decide +kernel) (by decide +kernel)
theorem wd_1740 : (Jvm.Cond.code ({ cls := "AisleSchedulerModel", name := "append", desc := "(C)I" } : Jvm.MethodName) prog_12_method_94_code (2 : Nat) (Option.some Jvm.ClassFile.FieldType.int)) ∈ am_TB := am_tb1 1740 (by decide +kernel) (by decide +kernel)
theorem wd_1741 : (Jvm.Cond.methodLink "AisleSchedulerLaw" (261 : Nat) ({ cls := "AisleSchedulerModel", name := "read", desc := "()I" } : Jvm.MethodName)) ∈ am_TB := am_tb1 1741 (by decide +kernel) (by decide +kernel)
theorem wd_1742 : (Jvm.Cond.instanceMethod ({ cls := "AisleSchedulerModel", name := "read", desc := "()I" } : Jvm.MethodName)) ∈ am_TB := am_tb1 1742 (by decide +kernel) (by decide +kernel)
theorem wd_1743 : (Jvm.Cond.selects "AisleSchedulerModel" ({ cls := "AisleSchedulerModel", name := "read", desc := "()I" } : Jvm.MethodName) ({ cls := "AisleSchedulerModel", name := "read", desc := "()I" } : Jvm.MethodName)) ∈ am_TB := am_tb1 1743 (by decide +kernel) (by decide +kernel)
theorem wd_1744 : (Jvm.Cond.code ({ cls := "AisleSchedulerModel", name := "read", desc := "()I" } : Jvm.MethodName) prog_12_method_100_code (4 : Nat) (Option.some Jvm.ClassFile.FieldType.int)) ∈ am_TB := am_tb1 1744 (by decide +kernel) (by decide +kernel)
theorem wd_1768 : (Jvm.Cond.methodLink "AisleSchedulerLaw" (264 : Nat) ({ cls := "AisleSchedulerModel", name := "errorPosition", desc := "()I" } : Jvm.MethodName)) ∈ am_TB := am_tb1 1768 (by decide +kernel) (by decide +kernel)
theorem wd_1769 : (Jvm.Cond.instanceMethod ({ cls := "AisleSchedulerModel", name := "errorPosition", desc := "()I" } : Jvm.MethodName)) ∈ am_TB := am_tb1 1769 (by decide +kernel) (by decide +kernel)
theorem wd_1770 : (Jvm.Cond.selects "AisleSchedulerModel" ({ cls := "AisleSchedulerModel", name := "errorPosition", desc := "()I" } : Jvm.MethodName) ({ cls := "AisleSchedulerModel", name := "errorPosition", desc := "()I" } : Jvm.MethodName)) ∈ am_TB := am_tb1 1770 (by decide +kernel) (by decide +kernel)
theorem wd_1771 : (Jvm.Cond.code ({ cls := "AisleSchedulerModel", name := "errorPosition", desc := "()I" } : Jvm.MethodName) prog_12_method_101_code (1 : Nat) (Option.some Jvm.ClassFile.FieldType.int)) ∈ am_TB := am_tb1 1771 (by decide +kernel) (by decide +kernel)
theorem wd_1772 : (Jvm.Cond.methodLink "AisleSchedulerLaw" (268 : Nat) ({ cls := "AisleSchedulerModel", name := "save", desc := "()I" } : Jvm.MethodName)) ∈ am_TB := am_tb1 1772 (by decide +kernel) (by decide +kernel)
theorem wd_1773 : (Jvm.Cond.instanceMethod ({ cls := "AisleSchedulerModel", name := "save", desc := "()I" } : Jvm.MethodName)) ∈ am_TB := am_tb1 1773 (by decide +kernel) (by decide +kernel)
theorem wd_1774 : (Jvm.Cond.selects "AisleSchedulerModel" ({ cls := "AisleSchedulerModel", name := "save", desc := "()I" } : Jvm.MethodName) ({ cls := "AisleSchedulerModel", name := "save", desc := "()I" } : Jvm.MethodName)) ∈ am_TB := am_tb1 1774 (by decide +kernel) (by decide +kernel)
theorem wd_1775 : (Jvm.Cond.code ({ cls := "AisleSchedulerModel", name := "save", desc := "()I" } : Jvm.MethodName) prog_12_method_102_code (2 : Nat) (Option.some Jvm.ClassFile.FieldType.int)) ∈ am_TB := am_tb1 1775 (by decide +kernel) (by decide +kernel)
theorem wd_1776 : (Jvm.Cond.methodLink "AisleSchedulerLaw" (271 : Nat) ({ cls := "AisleSchedulerModel", name := "restore", desc := "()I" } : Jvm.MethodName)) ∈ am_TB := am_tb1 1776 (by decide +kernel) (by decide +kernel)
theorem wd_1777 : (Jvm.Cond.instanceMethod ({ cls := "AisleSchedulerModel", name := "restore", desc := "()I" } : Jvm.MethodName)) ∈ am_TB := am_tb1 1777 (by decide +kernel) (by decide +kernel)
theorem wd_1778 : (Jvm.Cond.selects "AisleSchedulerModel" ({ cls := "AisleSchedulerModel", name := "restore", desc := "()I" } : Jvm.MethodName) ({ cls := "AisleSchedulerModel", name := "restore", desc := "()I" } : Jvm.MethodName)) ∈ am_TB := am_tb1 1778 (by decide +kernel) (by decide +kernel)
theorem wd_1779 : (Jvm.Cond.code ({ cls := "AisleSchedulerModel", name := "restore", desc := "()I" } : Jvm.MethodName) prog_12_method_103_code (2 : Nat) (Option.some Jvm.ClassFile.FieldType.int)) ∈ am_TB := am_tb1 1779 (by decide +kernel) (by decide +kernel)
theorem cv_L_138 : am_CV RL 138 RX9 yX9_clear cX9_clear 2 (some .int) := ⟨wd_352, wd_353, wd_354, wd_1, wd_355, rfl⟩
theorem cv_L_141 : am_CV RL 141 RX10 yX10_clear cX10_clear 2 (some .int) := ⟨wd_1364, wd_1365, wd_1366, wd_11, wd_1367, rfl⟩
theorem cv_L_147 : am_CV RL 147 RX10 yX10_setCell cX10_setCell 4 (some .int) := ⟨wd_1372, wd_1373, wd_1374, wd_11, wd_1375, rfl⟩
theorem cv_L_148 : am_CV RL 148 RX10 yX10_thrown cX10_thrown 1 (some .int) := ⟨wd_1360, wd_1361, wd_1362, wd_11, wd_1363, rfl⟩
theorem cv_L_154 : am_CV RL 154 RX10 yX10_cell cX10_cell 2 (some .int) := ⟨wd_1421, wd_1422, wd_1423, wd_11, wd_1424, rfl⟩
theorem cv_L_157 : am_CV RL 157 RX10 yX10_addLift cX10_addLift 3 (some .int) := ⟨wd_1425, wd_1426, wd_1427, wd_11, wd_1428, rfl⟩
theorem cv_L_160 : am_CV RL 160 RX10 yX10_addRobot cX10_addRobot 5 (some .int) := ⟨wd_1433, wd_1434, wd_1435, wd_11, wd_1436, rfl⟩
theorem cv_L_163 : am_CV RL 163 RX10 yX10_robot cX10_robot 3 (some .int) := ⟨wd_1441, wd_1442, wd_1443, wd_11, wd_1444, rfl⟩
theorem cv_L_166 : am_CV RL 166 RX10 yX10_count cX10_count 2 (some .int) := ⟨wd_1464, wd_1465, wd_1466, wd_11, wd_1467, rfl⟩
theorem cv_L_169 : am_CV RL 169 RX10 yX10_region cX10_region 4 (some .int) := ⟨wd_1472, wd_1473, wd_1474, wd_11, wd_1475, rfl⟩
theorem cv_L_172 : am_CV RL 172 RX10 yX10_ticksBetween cX10_ticksBetween 3 (some .int) := ⟨wd_1486, wd_1487, wd_1488, wd_11, wd_1489, rfl⟩
theorem cv_L_175 : am_CV RL 175 RX10 yX10_plan cX10_plan 3 (some .int) := ⟨wd_1490, wd_1491, wd_1492, wd_11, wd_1493, rfl⟩
theorem cv_L_178 : am_CV RL 178 RX10 yX10_arrival cX10_arrival 3 (some .int) := ⟨wd_1558, wd_1559, wd_1560, wd_11, wd_1561, rfl⟩
theorem cv_L_181 : am_CV RL 181 RX10 yX10_routeCost cX10_routeCost 3 (some .int) := ⟨wd_1562, wd_1563, wd_1564, wd_11, wd_1565, rfl⟩
theorem cv_L_184 : am_CV RL 184 RX10 yX10_action cX10_action 3 (some .int) := ⟨wd_1566, wd_1567, wd_1568, wd_11, wd_1569, rfl⟩
theorem cv_L_187 : am_CV RL 187 RX10 yX10_cellAfter cX10_cellAfter 3 (some .int) := ⟨wd_1570, wd_1571, wd_1572, wd_11, wd_1573, rfl⟩
theorem cv_L_190 : am_CV RL 190 RX10 yX10_robotAt cX10_robotAt 4 (some .int) := ⟨wd_1574, wd_1575, wd_1576, wd_11, wd_1577, rfl⟩
theorem cv_L_193 : am_CV RL 193 RX10 yX10_cancel cX10_cancel 3 (some .int) := ⟨wd_1578, wd_1579, wd_1580, wd_11, wd_1581, rfl⟩
theorem cv_L_196 : am_CV RL 196 RX10 yX10_blockers cX10_blockers 5 (some .int) := ⟨wd_1582, wd_1583, wd_1584, wd_11, wd_1585, rfl⟩
theorem cv_L_199 : am_CV RL 199 RX10 yX10_makeWay cX10_makeWay 6 (some .int) := ⟨wd_1586, wd_1587, wd_1588, wd_11, wd_1589, rfl⟩
theorem cv_L_202 : am_CV RL 202 RX10 yX10_planToCharger cX10_planToCharger 5 (some .int) := ⟨wd_1602, wd_1603, wd_1604, wd_11, wd_1605, rfl⟩
theorem cv_L_206 : am_CV RL 206 RX10 yX10_addTask cX10_addTask 6 (some .int) := ⟨wd_1607, wd_1608, wd_1609, wd_11, wd_1610, rfl⟩
theorem cv_L_209 : am_CV RL 209 RX10 yX10_serve cX10_serve 4 (some .int) := ⟨wd_1611, wd_1612, wd_1613, wd_11, wd_1614, rfl⟩
theorem cv_L_212 : am_CV RL 212 RX10 yX10_bestRobot cX10_bestRobot 3 (some .int) := ⟨wd_1636, wd_1637, wd_1638, wd_11, wd_1639, rfl⟩
theorem cv_L_215 : am_CV RL 215 RX10 yX10_task cX10_task 3 (some .int) := ⟨wd_1644, wd_1645, wd_1646, wd_11, wd_1647, rfl⟩
theorem cv_L_216 : am_CV RL 216 RX9 yX9_assignAll cX9_assignAll 1 (some .int) := ⟨wd_362, wd_363, wd_364, wd_1, wd_365, rfl⟩
theorem cv_L_219 : am_CV RL 219 RX10 yX10_assignAll cX10_assignAll 5 (some .int) := ⟨wd_1648, wd_1649, wd_1650, wd_11, wd_1651, rfl⟩
theorem cv_L_222 : am_CV RL 222 RX10 yX10_tasksIn cX10_tasksIn 4 (some .int) := ⟨wd_1652, wd_1653, wd_1654, wd_11, wd_1655, rfl⟩
theorem cv_L_225 : am_CV RL 225 RX10 yX10_advance cX10_advance 4 (some .int) := ⟨wd_1656, wd_1657, wd_1658, wd_11, wd_1659, rfl⟩
theorem cv_L_228 : am_CV RL 228 RX10 yX10_statistic cX10_statistic 3 (some .int) := ⟨wd_1684, wd_1685, wd_1686, wd_11, wd_1687, rfl⟩
theorem cv_L_232 : am_CV RL 232 RX10 yX10_activity cX10_activity 2 (some .float) := ⟨wd_1688, wd_1689, wd_1690, wd_11, wd_1691, rfl⟩
theorem cv_L_235 : am_CV RL 235 RX10 yX10_activityBits cX10_activityBits 2 (some .int) := ⟨wd_1700, wd_1701, wd_1702, wd_11, wd_1703, rfl⟩
theorem cv_L_239 : am_CV RL 239 RX10 yX10_averageDelay cX10_averageDelay 4 (some .double) := ⟨wd_1714, wd_1715, wd_1716, wd_11, wd_1717, rfl⟩
theorem cv_L_242 : am_CV RL 242 RX10 yX10_visits cX10_visits 2 (some .int) := ⟨wd_1718, wd_1719, wd_1720, wd_11, wd_1721, rfl⟩
theorem cv_L_243 : am_CV RL 243 RX9 yX9_busiestCell cX9_busiestCell 3 (some .int) := ⟨wd_560, wd_561, wd_562, wd_1, wd_563, rfl⟩
theorem cv_L_246 : am_CV RL 246 RX10 yX10_busiestCell cX10_busiestCell 3 (some .int) := ⟨wd_1722, wd_1723, wd_1724, wd_11, wd_1725, rfl⟩
theorem cv_L_250 : am_CV RL 250 RX10 yX10_sample cX10_sample 7 (some .int) := ⟨wd_1726, wd_1727, wd_1728, wd_11, wd_1729, rfl⟩
theorem cv_L_253 : am_CV RL 253 RX10 yX10_sampled cX10_sampled 5 (some .int) := ⟨wd_1733, wd_1734, wd_1735, wd_11, wd_1736, rfl⟩
theorem cv_L_257 : am_CV RL 257 RX10 yX10_append cX10_append 2 (some .int) := ⟨wd_1737, wd_1738, wd_1739, wd_11, wd_1740, rfl⟩
theorem cv_L_261 : am_CV RL 261 RX10 yX10_read cX10_read 4 (some .int) := ⟨wd_1741, wd_1742, wd_1743, wd_11, wd_1744, rfl⟩
theorem cv_L_264 : am_CV RL 264 RX10 yX10_errorPosition cX10_errorPosition 1 (some .int) := ⟨wd_1768, wd_1769, wd_1770, wd_11, wd_1771, rfl⟩
theorem cv_L_265 : am_CV RL 265 RX9 yX9_save cX9_save 1 (some .int) := ⟨wd_565, wd_566, wd_567, wd_1, wd_568, rfl⟩
theorem cv_L_268 : am_CV RL 268 RX10 yX10_save cX10_save 2 (some .int) := ⟨wd_1772, wd_1773, wd_1774, wd_11, wd_1775, rfl⟩
theorem cv_L_271 : am_CV RL 271 RX10 yX10_restore cX10_restore 2 (some .int) := ⟨wd_1776, wd_1777, wd_1778, wd_11, wd_1779, rfl⟩
theorem cs_L_142 : am_CSW RL 142 yL_setCell cL_setCell 5 (some .int) [(0, 10, 13, 13), (0, 10, 17, 15), (0, 10, 21, 17)] := ⟨wd_590, wd_591, wd_0, wd_592⟩
theorem cs_L_151 : am_CSW RL 151 yL_cell cL_cell 4 (some .int) [(0, 9, 12, 13)] := ⟨wd_743, wd_744, wd_0, wd_745⟩
theorem cs_L_155 : am_CSW RL 155 yL_addLift cL_addLift 5 (some .int) [(0, 10, 13, 13), (0, 10, 17, 15), (0, 10, 21, 17)] := ⟨wd_754, wd_755, wd_0, wd_756⟩
theorem cs_L_158 : am_CSW RL 158 yL_addRobot cL_addRobot 5 (some .int) [(0, 10, 13, 13), (0, 10, 17, 15), (0, 10, 21, 17)] := ⟨wd_770, wd_771, wd_0, wd_772⟩
theorem cs_L_161 : am_CSW RL 161 yL_robot cL_robot 5 (some .int) [(0, 10, 13, 13), (0, 10, 17, 15)] := ⟨wd_787, wd_788, wd_0, wd_789⟩
theorem cs_L_164 : am_CSW RL 164 yL_count cL_count 4 (some .int) [(0, 9, 12, 15)] := ⟨wd_812, wd_813, wd_0, wd_814⟩
theorem cs_L_167 : am_CSW RL 167 yL_region cL_region 4 (some .int) [(0, 9, 12, 13)] := ⟨wd_823, wd_824, wd_0, wd_825⟩
theorem cs_L_170 : am_CSW RL 170 yL_ticksBetween cL_ticksBetween 5 (some .int) [(0, 10, 13, 13), (0, 10, 17, 41)] := ⟨wd_844, wd_845, wd_0, wd_846⟩
theorem cs_L_173 : am_CSW RL 173 yL_plan cL_plan 5 (some .int) [(0, 10, 13, 13), (0, 10, 17, 17), (0, 10, 21, 41), (0, 10, 25, 46)] := ⟨wd_873, wd_874, wd_0, wd_875⟩
theorem cs_L_176 : am_CSW RL 176 yL_arrival cL_arrival 5 (some .int) [(0, 10, 13, 13), (0, 10, 17, 17), (0, 10, 21, 41)] := ⟨wd_914, wd_915, wd_0, wd_916⟩
theorem cs_L_179 : am_CSW RL 179 yL_routeCost cL_routeCost 5 (some .int) [(0, 10, 13, 13), (0, 10, 17, 17), (0, 10, 21, 41)] := ⟨wd_921, wd_922, wd_0, wd_923⟩
theorem cs_L_182 : am_CSW RL 182 yL_action cL_action 5 (some .int) [(0, 10, 13, 13), (0, 10, 17, 41)] := ⟨wd_928, wd_929, wd_0, wd_930⟩
theorem cs_L_185 : am_CSW RL 185 yL_cellAfter cL_cellAfter 5 (some .int) [(0, 10, 13, 13), (0, 10, 17, 15)] := ⟨wd_940, wd_941, wd_0, wd_942⟩
theorem cs_L_188 : am_CSW RL 188 yL_robotAt cL_robotAt 5 (some .int) [(0, 10, 13, 13), (0, 10, 17, 15)] := ⟨wd_951, wd_952, wd_0, wd_953⟩
theorem cs_L_191 : am_CSW RL 191 yL_cancel cL_cancel 4 (some .int) [(0, 9, 12, 13), (0, 9, 15, 17), (0, 9, 18, 46)] := ⟨wd_962, wd_963, wd_0, wd_964⟩
theorem cs_L_194 : am_CSW RL 194 yL_blockers cL_blockers 5 (some .int) [(0, 10, 13, 13)] := ⟨wd_973, wd_974, wd_0, wd_975⟩
theorem cs_L_197 : am_CSW RL 197 yL_makeWay cL_makeWay 5 (some .int) [(0, 10, 13, 13), (0, 10, 17, 17), (0, 10, 21, 41)] := ⟨wd_989, wd_990, wd_0, wd_991⟩
theorem cs_L_200 : am_CSW RL 200 yL_planToCharger cL_planToCharger 4 (some .int) [(0, 9, 12, 13), (0, 9, 15, 17), (0, 9, 18, 41)] := ⟨wd_1010, wd_1011, wd_0, wd_1012⟩
theorem cs_L_203 : am_CSW RL 203 yL_addTask cL_addTask 7 (some .int) [(0, 14, 17, 13), (0, 14, 21, 15), (0, 14, 25, 17)] := ⟨wd_1023, wd_1024, wd_0, wd_1025⟩
theorem cs_L_207 : am_CSW RL 207 yL_serve cL_serve 5 (some .int) [(0, 10, 13, 13), (0, 10, 17, 17)] := ⟨wd_1037, wd_1038, wd_0, wd_1039⟩
theorem cs_L_210 : am_CSW RL 210 yL_bestRobot cL_bestRobot 4 (some .int) [(0, 9, 12, 13), (0, 9, 15, 17), (0, 9, 18, 41)] := ⟨wd_1055, wd_1056, wd_0, wd_1057⟩
theorem cs_L_213 : am_CSW RL 213 yL_task cL_task 5 (some .int) [(0, 10, 13, 13), (0, 10, 17, 15)] := ⟨wd_1064, wd_1065, wd_0, wd_1066⟩
theorem cs_L_220 : am_CSW RL 220 yL_tasksIn cL_tasksIn 4 (some .int) [(0, 9, 12, 15)] := ⟨wd_1072, wd_1073, wd_0, wd_1074⟩
theorem cs_L_223 : am_CSW RL 223 yL_advance cL_advance 4 (some .int) [(0, 9, 12, 15), (0, 9, 15, 17)] := ⟨wd_1080, wd_1081, wd_0, wd_1082⟩
theorem cs_L_226 : am_CSW RL 226 yL_statistic cL_statistic 5 (some .int) [(0, 10, 13, 13), (0, 10, 17, 15)] := ⟨wd_1119, wd_1120, wd_0, wd_1121⟩
theorem cs_L_229 : am_CSW RL 229 yL_activity cL_activity 4 (some .int) [(0, 9, 12, 13), (0, 9, 15, 101)] := ⟨wd_1127, wd_1128, wd_0, wd_1129⟩
theorem cs_L_233 : am_CSW RL 233 yL_activityBits cL_activityBits 4 (some .int) [(0, 9, 12, 13), (0, 9, 15, 101)] := ⟨wd_1155, wd_1156, wd_0, wd_1157⟩
theorem cs_L_236 : am_CSW RL 236 yL_averageDelay cL_averageDelay 3 (some .int) [(0, 7, 10, 101)] := ⟨wd_1167, wd_1168, wd_0, wd_1169⟩
theorem cs_L_240 : am_CSW RL 240 yL_visits cL_visits 4 (some .int) [(0, 9, 12, 13)] := ⟨wd_1175, wd_1176, wd_0, wd_1177⟩
theorem cs_L_247 : am_CSW RL 247 yL_sample cL_sample 6 (some .int) [(0, 12, 15, 13), (0, 12, 19, 46)] := ⟨wd_1182, wd_1183, wd_0, wd_1184⟩
theorem cs_L_251 : am_CSW RL 251 yL_sampled cL_sampled 6 (some .int) [(0, 12, 15, 13), (0, 12, 19, 15), (0, 12, 23, 41)] := ⟨wd_1205, wd_1206, wd_0, wd_1207⟩
theorem cs_L_254 : am_CSW RL 254 yL_append cL_append 4 (some .int) [(0, 9, 12, 15), (0, 9, 15, 17)] := ⟨wd_1214, wd_1215, wd_0, wd_1216⟩
theorem cs_L_258 : am_CSW RL 258 yL_read cL_read 3 (some .int) [(0, 8, 11, 15), (0, 8, 14, 17)] := ⟨wd_1228, wd_1229, wd_0, wd_1230⟩
theorem cs_L_262 : am_CSW RL 262 yL_errorPosition cL_errorPosition 3 (some .int) [(0, 8, 11, 41)] := ⟨wd_1273, wd_1274, wd_0, wd_1275⟩
theorem cs_L_269 : am_CSW RL 269 yL_restore cL_restore 3 (some .int) [(0, 8, 11, 17)] := ⟨wd_1281, wd_1282, wd_0, wd_1283⟩
def g_L_law_J216 (xs : Nat → Int32) (L : Nat) (rc : Int32 → am_M → Option (Unit × am_M)) (a5 : Int32) (M : am_M) : Option (Unit × am_M) := (am_b (g_X9_clear  M) (fun v3 M2 => (am_b (g_X10_clear  M2) (fun v6 M5 => (if v3 = v6 then (rc (a5 + (5 : Int32)) M5) else none)))))
set_option maxHeartbeats 4000000 in
set_option maxRecDepth 100000 in
theorem cj_L_law_J216 {l : Launch} {p : Program} {e : Env} {s : State} {m : MethodId} {args : Array Value} {below : List Frame} {meth : Method} {c : Code} {Q : State → Prop} {D : va_G} {E : Nat → ClassId} {z b L : Nat} {xs : Nat → Int32} (F : am_F p s m args meth c cL_law 9 RL D E z) (hxs : va_X b L xs s s.heap) (hbl : b < s.heap.size) (hbz : ¬ z ≤ b) (hNC : am_NC s) (hls : l.stackTraces = false) (rc : Int32 → am_M → Option (Unit × am_M)) (a5 : Int32) (M M1 : am_M) (cl sl : Nat) (hc9 : cl + 10 ≤ 603072) (hs9 : sl + 60 ≤ 7198826) (h : g_L_law_J216 xs L rc a5 M = some ((), M1)) (HR : ∀ (b5 : Int32) (M2 : am_M) (cl2 sl2 : Nat), cl2 ≤ cl + 10 → sl2 ≤ sl + 60 → rc b5 M2 = some ((), M1) → am_W p l e room_1 s m args below meth c Q 9 D E z cl2 sl2 M2 28 [(0, .ref b), (1, .ref (z + 0)), (2, .ref (z + 174)), (3, .ref (z + 186)), (4, .ref (z + 187)), (5, .int b5)] []) : am_W p l e room_1 s m args below meth c Q 9 D E z cl sl M 216 [(0, .ref b), (1, .ref (z + 0)), (2, .ref (z + 174)), (3, .ref (z + 186)), (4, .ref (z + 187)), (5, .int a5)] [] := by
  unfold g_L_law_J216 at h
  refine am_aload_n F 1 dL_law_216 rfl rfl ?_
  obtain ⟨v3, M2, h1, h⟩ := am_bE h
  refine am_callVi F [] lyk_0 (by decide) rfl cv_L_138 (c_X9_clear l D E z  M v3 M2 h1) yn_X9_clear rfl ⟨Nat.le_of_ble_eq_true rfl, Nat.le_of_ble_eq_true rfl⟩ rfl rfl (Nat.le_of_ble_eq_true rfl) ⟨(show cl ≤ 603072 by omega), (show sl ≤ 7198826 by omega)⟩ dL_law_217 rfl ?_
  refine am_aload_n F 2 dL_law_220 rfl rfl ?_
  obtain ⟨v6, M5, h4, h⟩ := am_bE h
  refine am_callVi F [] lyk_174 (by decide) rfl cv_L_141 (c_X10_clear l D E z  M2 v6 M5 h4) yn_X10_clear rfl ⟨Nat.le_of_ble_eq_true rfl, Nat.le_of_ble_eq_true rfl⟩ rfl rfl (Nat.le_of_ble_eq_true rfl) ⟨(show cl ≤ 603072 by omega), (show sl ≤ 7198826 by omega)⟩ dL_law_221 rfl ?_
  refine am_icmp_eq F (tgt := 2501) dL_law_224 (by decide) (fun c7 => ?_) (fun c7 => ?_)
  · have h := (if_pos c7).symm.trans h
    refine am_iinc F [(5, .int (a5 + (5 : Int32))), (0, .ref b), (1, .ref (z + 0)), (2, .ref (z + 174)), (3, .ref (z + 186)), (4, .ref (z + 187))] 5 dL_law_2501 (by decide) rfl rfl rfl ?_
    refine am_goto F (tgt := 28) dL_law_2504 (by decide) ?_
    exact am_sub (lv' := [(0, .ref b), (1, .ref (z + 0)), (2, .ref (z + 174)), (3, .ref (z + 186)), (4, .ref (z + 187)), (5, .int (a5 + (5 : Int32)))]) [1, 2, 3, 4, 5, 0] rfl (HR (a5 + (5 : Int32)) M5 cl sl (by omega) (by omega) h)
  · have h := (if_neg c7).symm.trans h
    cases h
def g_L_law_J229 (xs : Nat → Int32) (L : Nat) (rc : Int32 → am_M → Option (Unit × am_M)) (a5 : Int32) (M : am_M) : Option (Unit × am_M) := (am_ci (a5 + (1 : Int32)) L (am_ci (a5 + (2 : Int32)) L (am_b (g_L_setCell (xs (a5 + (1 : Int32)).toNatClampNeg) (xs (a5 + (2 : Int32)).toNatClampNeg) M) (fun v5 M4 => (am_ci (a5 + (1 : Int32)) L (am_ci (a5 + (2 : Int32)) L (am_b (g_X10_setCell (xs (a5 + (1 : Int32)).toNatClampNeg) (xs (a5 + (2 : Int32)).toNatClampNeg) M4) (fun v10 M9 => (am_b (g_X10_thrown  M9) (fun v13 M12 => (if v13 = v5 then (if v5 = (0 : Int32) then (am_ci (0 : Int32) 1 (if (lg_cmp (am_lg M12 186 (0 : Int32).toNatClampNeg) (v10.toInt64)) = (0 : Int32) then (rc (a5 + (5 : Int32)) M12) else none)) else (rc (a5 + (5 : Int32)) M12)) else none)))))))))))
set_option maxHeartbeats 4000000 in
set_option maxRecDepth 100000 in
theorem cj_L_law_J229 {l : Launch} {p : Program} {e : Env} {s : State} {m : MethodId} {args : Array Value} {below : List Frame} {meth : Method} {c : Code} {Q : State → Prop} {D : va_G} {E : Nat → ClassId} {z b L : Nat} {xs : Nat → Int32} (F : am_F p s m args meth c cL_law 9 RL D E z) (hxs : va_X b L xs s s.heap) (hbl : b < s.heap.size) (hbz : ¬ z ≤ b) (hNC : am_NC s) (hls : l.stackTraces = false) (rc : Int32 → am_M → Option (Unit × am_M)) (a5 : Int32) (M M1 : am_M) (cl sl : Nat) (hc9 : cl + 10 ≤ 603072) (hs9 : sl + 60 ≤ 7198826) (h : g_L_law_J229 xs L rc a5 M = some ((), M1)) (HR : ∀ (b5 : Int32) (M2 : am_M) (cl2 sl2 : Nat), cl2 ≤ cl + 10 → sl2 ≤ sl + 60 → rc b5 M2 = some ((), M1) → am_W p l e room_1 s m args below meth c Q 9 D E z cl2 sl2 M2 28 [(0, .ref b), (1, .ref (z + 0)), (2, .ref (z + 174)), (3, .ref (z + 186)), (4, .ref (z + 187)), (5, .int b5)] []) : am_W p l e room_1 s m args below meth c Q 9 D E z cl sl M 229 [(0, .ref b), (1, .ref (z + 0)), (2, .ref (z + 174)), (3, .ref (z + 186)), (4, .ref (z + 187)), (5, .int a5)] [] := by
  unfold g_L_law_J229 at h
  refine am_aload_n F 1 dL_law_229 rfl rfl ?_
  refine am_aload_n F 0 dL_law_230 rfl rfl ?_
  refine am_iload F 5 dL_law_231 rfl ?_
  refine am_iconst F (v := (1 : Int32)) dL_law_233 (by decide) ?_
  refine am_iadd F dL_law_234 ?_
  obtain ⟨q1, h⟩ := am_ciE h
  refine am_sld F hxs hbl hbz q1 dL_law_235 ?_
  refine am_aload_n F 0 dL_law_236 rfl rfl ?_
  refine am_iload F 5 dL_law_237 rfl ?_
  refine am_iconst F (v := (2 : Int32)) dL_law_239 (by decide) ?_
  refine am_iadd F dL_law_240 ?_
  obtain ⟨q2, h⟩ := am_ciE h
  refine am_sld F hxs hbl hbz q2 dL_law_241 ?_
  refine am_aload_n F 3 dL_law_242 rfl rfl ?_
  obtain ⟨v5, M4, h3, h⟩ := am_bE h
  refine am_callL F hNC [.ref (z + 0), .int (xs (a5 + (1 : Int32)).toNatClampNeg), .int (xs (a5 + (2 : Int32)).toNatClampNeg), .ref (z + 186)] cs_L_142 (c_L_setCell l hls D E z (xs (a5 + (1 : Int32)).toNatClampNeg) (xs (a5 + (2 : Int32)).toNatClampNeg) M v5 M4 h3) yn_L_setCell rfl ⟨Nat.le_of_ble_eq_true rfl, Nat.le_of_ble_eq_true rfl⟩ rfl rfl (Nat.le_of_ble_eq_true rfl) ⟨(show cl + 1 ≤ 603072 by omega), (show sl + 6 ≤ 7198826 by omega)⟩ dL_law_243 rfl ?_
  refine am_istore F [(6, .int v5), (0, .ref b), (1, .ref (z + 0)), (2, .ref (z + 174)), (3, .ref (z + 186)), (4, .ref (z + 187)), (5, .int a5)] dL_law_246 (by decide) rfl ?_
  refine am_aload_n F 3 dL_law_248 rfl rfl ?_
  refine am_aload_n F 1 dL_law_249 rfl rfl ?_
  refine am_iload F 6 dL_law_250 rfl ?_
  refine am_iconst F (v := (1 : Int32)) dL_law_252 (by decide) ?_
  refine am_iadd F dL_law_253 ?_
  obtain ⟨q6, h⟩ := am_ciE h
  refine am_sld F hxs hbl hbz q6 dL_law_254 ?_
  refine am_aload_n F 1 dL_law_255 rfl rfl ?_
  refine am_iload F 6 dL_law_256 rfl ?_
  refine am_iconst F (v := (2 : Int32)) dL_law_258 (by decide) ?_
  refine am_iadd F dL_law_259 ?_
  obtain ⟨q7, h⟩ := am_ciE h
  refine am_sld F hxs hbl hbz q7 dL_law_260 ?_
  obtain ⟨v10, M9, h8, h⟩ := am_bE h
  refine am_callVi F [.int (xs (a5 + (1 : Int32)).toNatClampNeg), .int (xs (a5 + (2 : Int32)).toNatClampNeg)] lyk_174 (by decide) rfl cv_L_147 (c_X10_setCell l D E z (xs (a5 + (1 : Int32)).toNatClampNeg) (xs (a5 + (2 : Int32)).toNatClampNeg) M4 v10 M9 h8) yn_X10_setCell rfl ⟨Nat.le_of_ble_eq_true rfl, Nat.le_of_ble_eq_true rfl⟩ rfl rfl (Nat.le_of_ble_eq_true rfl) ⟨(show cl + 1 ≤ 603072 by omega), (show sl + 6 ≤ 7198826 by omega)⟩ dL_law_261 rfl ?_
  refine am_istore F [(7, .int v10), (6, .int v5), (0, .ref b), (1, .ref (z + 0)), (2, .ref (z + 174)), (3, .ref (z + 186)), (4, .ref (z + 187)), (5, .int a5)] dL_law_264 (by decide) rfl ?_
  refine am_aload_n F 4 dL_law_266 rfl rfl ?_
  obtain ⟨v13, M12, h11, h⟩ := am_bE h
  refine am_callVi F [] lyk_174 (by decide) rfl cv_L_148 (c_X10_thrown l D E z  M9 v13 M12 h11) yn_X10_thrown rfl ⟨Nat.le_of_ble_eq_true rfl, Nat.le_of_ble_eq_true rfl⟩ rfl rfl (Nat.le_of_ble_eq_true rfl) ⟨(show cl + 1 ≤ 603072 by omega), (show sl + 6 ≤ 7198826 by omega)⟩ dL_law_267 rfl ?_
  refine am_iload F 1 dL_law_270 rfl ?_
  refine am_icmp_eq F (tgt := 277) dL_law_272 (by decide) (fun c17 => ?_) (fun c17 => ?_)
  · have h := (if_pos c17).symm.trans h
    refine am_iload F 1 dL_law_277 rfl ?_
    refine am_if_ne F (tgt := 294) dL_law_279 (by decide) (fun c16 => ?_) (fun c16 => ?_)
    · have h := (if_neg c16).symm.trans h
      refine am_goto F (tgt := 2501) dL_law_294 (by decide) ?_
      refine am_iinc F [(5, .int (a5 + (5 : Int32))), (7, .int v10), (6, .int v5), (0, .ref b), (1, .ref (z + 0)), (2, .ref (z + 174)), (3, .ref (z + 186)), (4, .ref (z + 187))] 7 dL_law_2501 (by decide) rfl rfl rfl ?_
      refine am_goto F (tgt := 28) dL_law_2504 (by decide) ?_
      exact am_sub (lv' := [(0, .ref b), (1, .ref (z + 0)), (2, .ref (z + 174)), (3, .ref (z + 186)), (4, .ref (z + 187)), (5, .int (a5 + (5 : Int32)))]) [3, 4, 5, 6, 7, 0] rfl (HR (a5 + (5 : Int32)) M12 (cl + 1) (sl + 6) (by omega) (by omega) h)
    · have h := (if_pos c16).symm.trans h
      refine am_aload_n F 5 dL_law_282 rfl rfl ?_
      refine am_iconst F (v := (0 : Int32)) dL_law_283 (by decide) ?_
      obtain ⟨q14, h⟩ := am_ciE h
      refine am_lald F lyk_186 q14 dL_law_284 ?_
      refine am_iload F 0 dL_law_285 rfl ?_
      refine am_i2l F dL_law_287 ?_
      refine am_lcmp F dL_law_288 ?_
      refine am_if_eq F (tgt := 294) dL_law_289 (by decide) (fun c15 => ?_) (fun c15 => ?_)
      · have h := (if_pos c15).symm.trans h
        refine am_goto F (tgt := 2501) dL_law_294 (by decide) ?_
        refine am_iinc F [(5, .int (a5 + (5 : Int32))), (7, .int v10), (6, .int v5), (0, .ref b), (1, .ref (z + 0)), (2, .ref (z + 174)), (3, .ref (z + 186)), (4, .ref (z + 187))] 7 dL_law_2501 (by decide) rfl rfl rfl ?_
        refine am_goto F (tgt := 28) dL_law_2504 (by decide) ?_
        exact am_sub (lv' := [(0, .ref b), (1, .ref (z + 0)), (2, .ref (z + 174)), (3, .ref (z + 186)), (4, .ref (z + 187)), (5, .int (a5 + (5 : Int32)))]) [3, 4, 5, 6, 7, 0] rfl (HR (a5 + (5 : Int32)) M12 (cl + 1) (sl + 6) (by omega) (by omega) h)
      · have h := (if_neg c15).symm.trans h
        cases h
  · have h := (if_neg c17).symm.trans h
    cases h
def g_L_law_J297 (xs : Nat → Int32) (L : Nat) (rc : Int32 → am_M → Option (Unit × am_M)) (a5 : Int32) (M : am_M) : Option (Unit × am_M) := (am_ci (a5 + (1 : Int32)) L (am_b (g_L_cell (xs (a5 + (1 : Int32)).toNatClampNeg) M) (fun v4 M3 => (am_ci (a5 + (1 : Int32)) L (am_b (g_X10_cell (xs (a5 + (1 : Int32)).toNatClampNeg) M3) (fun v8 M7 => (am_b (g_X10_thrown  M7) (fun v11 M10 => (if v11 = v4 then (if v4 = (0 : Int32) then (am_ci (0 : Int32) 1 (if (lg_cmp (am_lg M10 186 (0 : Int32).toNatClampNeg) (v8.toInt64)) = (0 : Int32) then (rc (a5 + (5 : Int32)) M10) else none)) else (rc (a5 + (5 : Int32)) M10)) else none)))))))))
set_option maxHeartbeats 4000000 in
set_option maxRecDepth 100000 in
theorem cj_L_law_J297 {l : Launch} {p : Program} {e : Env} {s : State} {m : MethodId} {args : Array Value} {below : List Frame} {meth : Method} {c : Code} {Q : State → Prop} {D : va_G} {E : Nat → ClassId} {z b L : Nat} {xs : Nat → Int32} (F : am_F p s m args meth c cL_law 9 RL D E z) (hxs : va_X b L xs s s.heap) (hbl : b < s.heap.size) (hbz : ¬ z ≤ b) (hNC : am_NC s) (hls : l.stackTraces = false) (rc : Int32 → am_M → Option (Unit × am_M)) (a5 : Int32) (M M1 : am_M) (cl sl : Nat) (hc9 : cl + 10 ≤ 603072) (hs9 : sl + 60 ≤ 7198826) (h : g_L_law_J297 xs L rc a5 M = some ((), M1)) (HR : ∀ (b5 : Int32) (M2 : am_M) (cl2 sl2 : Nat), cl2 ≤ cl + 10 → sl2 ≤ sl + 60 → rc b5 M2 = some ((), M1) → am_W p l e room_1 s m args below meth c Q 9 D E z cl2 sl2 M2 28 [(0, .ref b), (1, .ref (z + 0)), (2, .ref (z + 174)), (3, .ref (z + 186)), (4, .ref (z + 187)), (5, .int b5)] []) : am_W p l e room_1 s m args below meth c Q 9 D E z cl sl M 297 [(0, .ref b), (1, .ref (z + 0)), (2, .ref (z + 174)), (3, .ref (z + 186)), (4, .ref (z + 187)), (5, .int a5)] [] := by
  unfold g_L_law_J297 at h
  refine am_aload_n F 1 dL_law_297 rfl rfl ?_
  refine am_aload_n F 0 dL_law_298 rfl rfl ?_
  refine am_iload F 5 dL_law_299 rfl ?_
  refine am_iconst F (v := (1 : Int32)) dL_law_301 (by decide) ?_
  refine am_iadd F dL_law_302 ?_
  obtain ⟨q1, h⟩ := am_ciE h
  refine am_sld F hxs hbl hbz q1 dL_law_303 ?_
  refine am_aload_n F 3 dL_law_304 rfl rfl ?_
  obtain ⟨v4, M3, h2, h⟩ := am_bE h
  refine am_callL F hNC [.ref (z + 0), .int (xs (a5 + (1 : Int32)).toNatClampNeg), .ref (z + 186)] cs_L_151 (c_L_cell l hls D E z (xs (a5 + (1 : Int32)).toNatClampNeg) M v4 M3 h2) yn_L_cell rfl ⟨Nat.le_of_ble_eq_true rfl, Nat.le_of_ble_eq_true rfl⟩ rfl rfl (Nat.le_of_ble_eq_true rfl) ⟨(show cl + 1 ≤ 603072 by omega), (show sl + 6 ≤ 7198826 by omega)⟩ dL_law_305 rfl ?_
  refine am_istore F [(6, .int v4), (0, .ref b), (1, .ref (z + 0)), (2, .ref (z + 174)), (3, .ref (z + 186)), (4, .ref (z + 187)), (5, .int a5)] dL_law_308 (by decide) rfl ?_
  refine am_aload_n F 3 dL_law_310 rfl rfl ?_
  refine am_aload_n F 1 dL_law_311 rfl rfl ?_
  refine am_iload F 6 dL_law_312 rfl ?_
  refine am_iconst F (v := (1 : Int32)) dL_law_314 (by decide) ?_
  refine am_iadd F dL_law_315 ?_
  obtain ⟨q5, h⟩ := am_ciE h
  refine am_sld F hxs hbl hbz q5 dL_law_316 ?_
  obtain ⟨v8, M7, h6, h⟩ := am_bE h
  refine am_callVi F [.int (xs (a5 + (1 : Int32)).toNatClampNeg)] lyk_174 (by decide) rfl cv_L_154 (c_X10_cell l D E z (xs (a5 + (1 : Int32)).toNatClampNeg) M3 v8 M7 h6) yn_X10_cell rfl ⟨Nat.le_of_ble_eq_true rfl, Nat.le_of_ble_eq_true rfl⟩ rfl rfl (Nat.le_of_ble_eq_true rfl) ⟨(show cl + 1 ≤ 603072 by omega), (show sl + 6 ≤ 7198826 by omega)⟩ dL_law_317 rfl ?_
  refine am_istore F [(7, .int v8), (6, .int v4), (0, .ref b), (1, .ref (z + 0)), (2, .ref (z + 174)), (3, .ref (z + 186)), (4, .ref (z + 187)), (5, .int a5)] dL_law_320 (by decide) rfl ?_
  refine am_aload_n F 4 dL_law_322 rfl rfl ?_
  obtain ⟨v11, M10, h9, h⟩ := am_bE h
  refine am_callVi F [] lyk_174 (by decide) rfl cv_L_148 (c_X10_thrown l D E z  M7 v11 M10 h9) yn_X10_thrown rfl ⟨Nat.le_of_ble_eq_true rfl, Nat.le_of_ble_eq_true rfl⟩ rfl rfl (Nat.le_of_ble_eq_true rfl) ⟨(show cl + 1 ≤ 603072 by omega), (show sl + 6 ≤ 7198826 by omega)⟩ dL_law_323 rfl ?_
  refine am_iload F 1 dL_law_326 rfl ?_
  refine am_icmp_eq F (tgt := 333) dL_law_328 (by decide) (fun c15 => ?_) (fun c15 => ?_)
  · have h := (if_pos c15).symm.trans h
    refine am_iload F 1 dL_law_333 rfl ?_
    refine am_if_ne F (tgt := 350) dL_law_335 (by decide) (fun c14 => ?_) (fun c14 => ?_)
    · have h := (if_neg c14).symm.trans h
      refine am_goto F (tgt := 2501) dL_law_350 (by decide) ?_
      refine am_iinc F [(5, .int (a5 + (5 : Int32))), (7, .int v8), (6, .int v4), (0, .ref b), (1, .ref (z + 0)), (2, .ref (z + 174)), (3, .ref (z + 186)), (4, .ref (z + 187))] 7 dL_law_2501 (by decide) rfl rfl rfl ?_
      refine am_goto F (tgt := 28) dL_law_2504 (by decide) ?_
      exact am_sub (lv' := [(0, .ref b), (1, .ref (z + 0)), (2, .ref (z + 174)), (3, .ref (z + 186)), (4, .ref (z + 187)), (5, .int (a5 + (5 : Int32)))]) [3, 4, 5, 6, 7, 0] rfl (HR (a5 + (5 : Int32)) M10 (cl + 1) (sl + 6) (by omega) (by omega) h)
    · have h := (if_pos c14).symm.trans h
      refine am_aload_n F 5 dL_law_338 rfl rfl ?_
      refine am_iconst F (v := (0 : Int32)) dL_law_339 (by decide) ?_
      obtain ⟨q12, h⟩ := am_ciE h
      refine am_lald F lyk_186 q12 dL_law_340 ?_
      refine am_iload F 0 dL_law_341 rfl ?_
      refine am_i2l F dL_law_343 ?_
      refine am_lcmp F dL_law_344 ?_
      refine am_if_eq F (tgt := 350) dL_law_345 (by decide) (fun c13 => ?_) (fun c13 => ?_)
      · have h := (if_pos c13).symm.trans h
        refine am_goto F (tgt := 2501) dL_law_350 (by decide) ?_
        refine am_iinc F [(5, .int (a5 + (5 : Int32))), (7, .int v8), (6, .int v4), (0, .ref b), (1, .ref (z + 0)), (2, .ref (z + 174)), (3, .ref (z + 186)), (4, .ref (z + 187))] 7 dL_law_2501 (by decide) rfl rfl rfl ?_
        refine am_goto F (tgt := 28) dL_law_2504 (by decide) ?_
        exact am_sub (lv' := [(0, .ref b), (1, .ref (z + 0)), (2, .ref (z + 174)), (3, .ref (z + 186)), (4, .ref (z + 187)), (5, .int (a5 + (5 : Int32)))]) [3, 4, 5, 6, 7, 0] rfl (HR (a5 + (5 : Int32)) M10 (cl + 1) (sl + 6) (by omega) (by omega) h)
      · have h := (if_neg c13).symm.trans h
        cases h
  · have h := (if_neg c15).symm.trans h
    cases h
def g_L_law_J353 (xs : Nat → Int32) (L : Nat) (rc : Int32 → am_M → Option (Unit × am_M)) (a5 : Int32) (M : am_M) : Option (Unit × am_M) := (am_ci (a5 + (1 : Int32)) L (am_ci (a5 + (2 : Int32)) L (am_b (g_L_addLift (xs (a5 + (1 : Int32)).toNatClampNeg) (xs (a5 + (2 : Int32)).toNatClampNeg) M) (fun v5 M4 => (am_ci (a5 + (1 : Int32)) L (am_ci (a5 + (2 : Int32)) L (am_b (g_X10_addLift (xs (a5 + (1 : Int32)).toNatClampNeg) (xs (a5 + (2 : Int32)).toNatClampNeg) M4) (fun v10 M9 => (am_b (g_X10_thrown  M9) (fun v13 M12 => (if v13 = v5 then (if v5 = (0 : Int32) then (am_ci (0 : Int32) 1 (if (lg_cmp (am_lg M12 186 (0 : Int32).toNatClampNeg) (v10.toInt64)) = (0 : Int32) then (rc (a5 + (5 : Int32)) M12) else none)) else (rc (a5 + (5 : Int32)) M12)) else none)))))))))))
set_option maxHeartbeats 4000000 in
set_option maxRecDepth 100000 in
theorem cj_L_law_J353 {l : Launch} {p : Program} {e : Env} {s : State} {m : MethodId} {args : Array Value} {below : List Frame} {meth : Method} {c : Code} {Q : State → Prop} {D : va_G} {E : Nat → ClassId} {z b L : Nat} {xs : Nat → Int32} (F : am_F p s m args meth c cL_law 9 RL D E z) (hxs : va_X b L xs s s.heap) (hbl : b < s.heap.size) (hbz : ¬ z ≤ b) (hNC : am_NC s) (hls : l.stackTraces = false) (rc : Int32 → am_M → Option (Unit × am_M)) (a5 : Int32) (M M1 : am_M) (cl sl : Nat) (hc9 : cl + 10 ≤ 603072) (hs9 : sl + 60 ≤ 7198826) (h : g_L_law_J353 xs L rc a5 M = some ((), M1)) (HR : ∀ (b5 : Int32) (M2 : am_M) (cl2 sl2 : Nat), cl2 ≤ cl + 10 → sl2 ≤ sl + 60 → rc b5 M2 = some ((), M1) → am_W p l e room_1 s m args below meth c Q 9 D E z cl2 sl2 M2 28 [(0, .ref b), (1, .ref (z + 0)), (2, .ref (z + 174)), (3, .ref (z + 186)), (4, .ref (z + 187)), (5, .int b5)] []) : am_W p l e room_1 s m args below meth c Q 9 D E z cl sl M 353 [(0, .ref b), (1, .ref (z + 0)), (2, .ref (z + 174)), (3, .ref (z + 186)), (4, .ref (z + 187)), (5, .int a5)] [] := by
  unfold g_L_law_J353 at h
  refine am_aload_n F 1 dL_law_353 rfl rfl ?_
  refine am_aload_n F 0 dL_law_354 rfl rfl ?_
  refine am_iload F 5 dL_law_355 rfl ?_
  refine am_iconst F (v := (1 : Int32)) dL_law_357 (by decide) ?_
  refine am_iadd F dL_law_358 ?_
  obtain ⟨q1, h⟩ := am_ciE h
  refine am_sld F hxs hbl hbz q1 dL_law_359 ?_
  refine am_aload_n F 0 dL_law_360 rfl rfl ?_
  refine am_iload F 5 dL_law_361 rfl ?_
  refine am_iconst F (v := (2 : Int32)) dL_law_363 (by decide) ?_
  refine am_iadd F dL_law_364 ?_
  obtain ⟨q2, h⟩ := am_ciE h
  refine am_sld F hxs hbl hbz q2 dL_law_365 ?_
  refine am_aload_n F 3 dL_law_366 rfl rfl ?_
  obtain ⟨v5, M4, h3, h⟩ := am_bE h
  refine am_callL F hNC [.ref (z + 0), .int (xs (a5 + (1 : Int32)).toNatClampNeg), .int (xs (a5 + (2 : Int32)).toNatClampNeg), .ref (z + 186)] cs_L_155 (c_L_addLift l hls D E z (xs (a5 + (1 : Int32)).toNatClampNeg) (xs (a5 + (2 : Int32)).toNatClampNeg) M v5 M4 h3) yn_L_addLift rfl ⟨Nat.le_of_ble_eq_true rfl, Nat.le_of_ble_eq_true rfl⟩ rfl rfl (Nat.le_of_ble_eq_true rfl) ⟨(show cl + 1 ≤ 603072 by omega), (show sl + 6 ≤ 7198826 by omega)⟩ dL_law_367 rfl ?_
  refine am_istore F [(6, .int v5), (0, .ref b), (1, .ref (z + 0)), (2, .ref (z + 174)), (3, .ref (z + 186)), (4, .ref (z + 187)), (5, .int a5)] dL_law_370 (by decide) rfl ?_
  refine am_aload_n F 3 dL_law_372 rfl rfl ?_
  refine am_aload_n F 1 dL_law_373 rfl rfl ?_
  refine am_iload F 6 dL_law_374 rfl ?_
  refine am_iconst F (v := (1 : Int32)) dL_law_376 (by decide) ?_
  refine am_iadd F dL_law_377 ?_
  obtain ⟨q6, h⟩ := am_ciE h
  refine am_sld F hxs hbl hbz q6 dL_law_378 ?_
  refine am_aload_n F 1 dL_law_379 rfl rfl ?_
  refine am_iload F 6 dL_law_380 rfl ?_
  refine am_iconst F (v := (2 : Int32)) dL_law_382 (by decide) ?_
  refine am_iadd F dL_law_383 ?_
  obtain ⟨q7, h⟩ := am_ciE h
  refine am_sld F hxs hbl hbz q7 dL_law_384 ?_
  obtain ⟨v10, M9, h8, h⟩ := am_bE h
  refine am_callVi F [.int (xs (a5 + (1 : Int32)).toNatClampNeg), .int (xs (a5 + (2 : Int32)).toNatClampNeg)] lyk_174 (by decide) rfl cv_L_157 (c_X10_addLift l D E z (xs (a5 + (1 : Int32)).toNatClampNeg) (xs (a5 + (2 : Int32)).toNatClampNeg) M4 v10 M9 h8) yn_X10_addLift rfl ⟨Nat.le_of_ble_eq_true rfl, Nat.le_of_ble_eq_true rfl⟩ rfl rfl (Nat.le_of_ble_eq_true rfl) ⟨(show cl + 1 ≤ 603072 by omega), (show sl + 6 ≤ 7198826 by omega)⟩ dL_law_385 rfl ?_
  refine am_istore F [(7, .int v10), (6, .int v5), (0, .ref b), (1, .ref (z + 0)), (2, .ref (z + 174)), (3, .ref (z + 186)), (4, .ref (z + 187)), (5, .int a5)] dL_law_388 (by decide) rfl ?_
  refine am_aload_n F 4 dL_law_390 rfl rfl ?_
  obtain ⟨v13, M12, h11, h⟩ := am_bE h
  refine am_callVi F [] lyk_174 (by decide) rfl cv_L_148 (c_X10_thrown l D E z  M9 v13 M12 h11) yn_X10_thrown rfl ⟨Nat.le_of_ble_eq_true rfl, Nat.le_of_ble_eq_true rfl⟩ rfl rfl (Nat.le_of_ble_eq_true rfl) ⟨(show cl + 1 ≤ 603072 by omega), (show sl + 6 ≤ 7198826 by omega)⟩ dL_law_391 rfl ?_
  refine am_iload F 1 dL_law_394 rfl ?_
  refine am_icmp_eq F (tgt := 401) dL_law_396 (by decide) (fun c17 => ?_) (fun c17 => ?_)
  · have h := (if_pos c17).symm.trans h
    refine am_iload F 1 dL_law_401 rfl ?_
    refine am_if_ne F (tgt := 418) dL_law_403 (by decide) (fun c16 => ?_) (fun c16 => ?_)
    · have h := (if_neg c16).symm.trans h
      refine am_goto F (tgt := 2501) dL_law_418 (by decide) ?_
      refine am_iinc F [(5, .int (a5 + (5 : Int32))), (7, .int v10), (6, .int v5), (0, .ref b), (1, .ref (z + 0)), (2, .ref (z + 174)), (3, .ref (z + 186)), (4, .ref (z + 187))] 7 dL_law_2501 (by decide) rfl rfl rfl ?_
      refine am_goto F (tgt := 28) dL_law_2504 (by decide) ?_
      exact am_sub (lv' := [(0, .ref b), (1, .ref (z + 0)), (2, .ref (z + 174)), (3, .ref (z + 186)), (4, .ref (z + 187)), (5, .int (a5 + (5 : Int32)))]) [3, 4, 5, 6, 7, 0] rfl (HR (a5 + (5 : Int32)) M12 (cl + 1) (sl + 6) (by omega) (by omega) h)
    · have h := (if_pos c16).symm.trans h
      refine am_aload_n F 5 dL_law_406 rfl rfl ?_
      refine am_iconst F (v := (0 : Int32)) dL_law_407 (by decide) ?_
      obtain ⟨q14, h⟩ := am_ciE h
      refine am_lald F lyk_186 q14 dL_law_408 ?_
      refine am_iload F 0 dL_law_409 rfl ?_
      refine am_i2l F dL_law_411 ?_
      refine am_lcmp F dL_law_412 ?_
      refine am_if_eq F (tgt := 418) dL_law_413 (by decide) (fun c15 => ?_) (fun c15 => ?_)
      · have h := (if_pos c15).symm.trans h
        refine am_goto F (tgt := 2501) dL_law_418 (by decide) ?_
        refine am_iinc F [(5, .int (a5 + (5 : Int32))), (7, .int v10), (6, .int v5), (0, .ref b), (1, .ref (z + 0)), (2, .ref (z + 174)), (3, .ref (z + 186)), (4, .ref (z + 187))] 7 dL_law_2501 (by decide) rfl rfl rfl ?_
        refine am_goto F (tgt := 28) dL_law_2504 (by decide) ?_
        exact am_sub (lv' := [(0, .ref b), (1, .ref (z + 0)), (2, .ref (z + 174)), (3, .ref (z + 186)), (4, .ref (z + 187)), (5, .int (a5 + (5 : Int32)))]) [3, 4, 5, 6, 7, 0] rfl (HR (a5 + (5 : Int32)) M12 (cl + 1) (sl + 6) (by omega) (by omega) h)
      · have h := (if_neg c15).symm.trans h
        cases h
  · have h := (if_neg c17).symm.trans h
    cases h
def g_L_law_J421 (xs : Nat → Int32) (L : Nat) (rc : Int32 → am_M → Option (Unit × am_M)) (a5 : Int32) (M : am_M) : Option (Unit × am_M) := (am_ci (a5 + (1 : Int32)) L (am_ci (a5 + (2 : Int32)) L (am_b (g_L_addRobot (xs (a5 + (1 : Int32)).toNatClampNeg) (xs (a5 + (2 : Int32)).toNatClampNeg) M) (fun v5 M4 => (am_ci (a5 + (1 : Int32)) L (am_ci (a5 + (2 : Int32)) L (am_b (g_X10_addRobot (xs (a5 + (1 : Int32)).toNatClampNeg) (xs (a5 + (2 : Int32)).toNatClampNeg) M4) (fun v10 M9 => (am_b (g_X10_thrown  M9) (fun v13 M12 => (if v13 = v5 then (if v5 = (0 : Int32) then (am_ci (0 : Int32) 1 (if (lg_cmp (am_lg M12 186 (0 : Int32).toNatClampNeg) (v10.toInt64)) = (0 : Int32) then (rc (a5 + (5 : Int32)) M12) else none)) else (rc (a5 + (5 : Int32)) M12)) else none)))))))))))
set_option maxHeartbeats 4000000 in
set_option maxRecDepth 100000 in
theorem cj_L_law_J421 {l : Launch} {p : Program} {e : Env} {s : State} {m : MethodId} {args : Array Value} {below : List Frame} {meth : Method} {c : Code} {Q : State → Prop} {D : va_G} {E : Nat → ClassId} {z b L : Nat} {xs : Nat → Int32} (F : am_F p s m args meth c cL_law 9 RL D E z) (hxs : va_X b L xs s s.heap) (hbl : b < s.heap.size) (hbz : ¬ z ≤ b) (hNC : am_NC s) (hls : l.stackTraces = false) (rc : Int32 → am_M → Option (Unit × am_M)) (a5 : Int32) (M M1 : am_M) (cl sl : Nat) (hc9 : cl + 10 ≤ 603072) (hs9 : sl + 60 ≤ 7198826) (h : g_L_law_J421 xs L rc a5 M = some ((), M1)) (HR : ∀ (b5 : Int32) (M2 : am_M) (cl2 sl2 : Nat), cl2 ≤ cl + 10 → sl2 ≤ sl + 60 → rc b5 M2 = some ((), M1) → am_W p l e room_1 s m args below meth c Q 9 D E z cl2 sl2 M2 28 [(0, .ref b), (1, .ref (z + 0)), (2, .ref (z + 174)), (3, .ref (z + 186)), (4, .ref (z + 187)), (5, .int b5)] []) : am_W p l e room_1 s m args below meth c Q 9 D E z cl sl M 421 [(0, .ref b), (1, .ref (z + 0)), (2, .ref (z + 174)), (3, .ref (z + 186)), (4, .ref (z + 187)), (5, .int a5)] [] := by
  unfold g_L_law_J421 at h
  refine am_aload_n F 1 dL_law_421 rfl rfl ?_
  refine am_aload_n F 0 dL_law_422 rfl rfl ?_
  refine am_iload F 5 dL_law_423 rfl ?_
  refine am_iconst F (v := (1 : Int32)) dL_law_425 (by decide) ?_
  refine am_iadd F dL_law_426 ?_
  obtain ⟨q1, h⟩ := am_ciE h
  refine am_sld F hxs hbl hbz q1 dL_law_427 ?_
  refine am_aload_n F 0 dL_law_428 rfl rfl ?_
  refine am_iload F 5 dL_law_429 rfl ?_
  refine am_iconst F (v := (2 : Int32)) dL_law_431 (by decide) ?_
  refine am_iadd F dL_law_432 ?_
  obtain ⟨q2, h⟩ := am_ciE h
  refine am_sld F hxs hbl hbz q2 dL_law_433 ?_
  refine am_aload_n F 3 dL_law_434 rfl rfl ?_
  obtain ⟨v5, M4, h3, h⟩ := am_bE h
  refine am_callL F hNC [.ref (z + 0), .int (xs (a5 + (1 : Int32)).toNatClampNeg), .int (xs (a5 + (2 : Int32)).toNatClampNeg), .ref (z + 186)] cs_L_158 (c_L_addRobot l hls D E z (xs (a5 + (1 : Int32)).toNatClampNeg) (xs (a5 + (2 : Int32)).toNatClampNeg) M v5 M4 h3) yn_L_addRobot rfl ⟨Nat.le_of_ble_eq_true rfl, Nat.le_of_ble_eq_true rfl⟩ rfl rfl (Nat.le_of_ble_eq_true rfl) ⟨(show cl + 1 ≤ 603072 by omega), (show sl + 6 ≤ 7198826 by omega)⟩ dL_law_435 rfl ?_
  refine am_istore F [(6, .int v5), (0, .ref b), (1, .ref (z + 0)), (2, .ref (z + 174)), (3, .ref (z + 186)), (4, .ref (z + 187)), (5, .int a5)] dL_law_438 (by decide) rfl ?_
  refine am_aload_n F 3 dL_law_440 rfl rfl ?_
  refine am_aload_n F 1 dL_law_441 rfl rfl ?_
  refine am_iload F 6 dL_law_442 rfl ?_
  refine am_iconst F (v := (1 : Int32)) dL_law_444 (by decide) ?_
  refine am_iadd F dL_law_445 ?_
  obtain ⟨q6, h⟩ := am_ciE h
  refine am_sld F hxs hbl hbz q6 dL_law_446 ?_
  refine am_aload_n F 1 dL_law_447 rfl rfl ?_
  refine am_iload F 6 dL_law_448 rfl ?_
  refine am_iconst F (v := (2 : Int32)) dL_law_450 (by decide) ?_
  refine am_iadd F dL_law_451 ?_
  obtain ⟨q7, h⟩ := am_ciE h
  refine am_sld F hxs hbl hbz q7 dL_law_452 ?_
  obtain ⟨v10, M9, h8, h⟩ := am_bE h
  refine am_callVi F [.int (xs (a5 + (1 : Int32)).toNatClampNeg), .int (xs (a5 + (2 : Int32)).toNatClampNeg)] lyk_174 (by decide) rfl cv_L_160 (c_X10_addRobot l D E z (xs (a5 + (1 : Int32)).toNatClampNeg) (xs (a5 + (2 : Int32)).toNatClampNeg) M4 v10 M9 h8) yn_X10_addRobot rfl ⟨Nat.le_of_ble_eq_true rfl, Nat.le_of_ble_eq_true rfl⟩ rfl rfl (Nat.le_of_ble_eq_true rfl) ⟨(show cl + 1 ≤ 603072 by omega), (show sl + 6 ≤ 7198826 by omega)⟩ dL_law_453 rfl ?_
  refine am_istore F [(7, .int v10), (6, .int v5), (0, .ref b), (1, .ref (z + 0)), (2, .ref (z + 174)), (3, .ref (z + 186)), (4, .ref (z + 187)), (5, .int a5)] dL_law_456 (by decide) rfl ?_
  refine am_aload_n F 4 dL_law_458 rfl rfl ?_
  obtain ⟨v13, M12, h11, h⟩ := am_bE h
  refine am_callVi F [] lyk_174 (by decide) rfl cv_L_148 (c_X10_thrown l D E z  M9 v13 M12 h11) yn_X10_thrown rfl ⟨Nat.le_of_ble_eq_true rfl, Nat.le_of_ble_eq_true rfl⟩ rfl rfl (Nat.le_of_ble_eq_true rfl) ⟨(show cl + 1 ≤ 603072 by omega), (show sl + 6 ≤ 7198826 by omega)⟩ dL_law_459 rfl ?_
  refine am_iload F 1 dL_law_462 rfl ?_
  refine am_icmp_eq F (tgt := 469) dL_law_464 (by decide) (fun c17 => ?_) (fun c17 => ?_)
  · have h := (if_pos c17).symm.trans h
    refine am_iload F 1 dL_law_469 rfl ?_
    refine am_if_ne F (tgt := 486) dL_law_471 (by decide) (fun c16 => ?_) (fun c16 => ?_)
    · have h := (if_neg c16).symm.trans h
      refine am_goto F (tgt := 2501) dL_law_486 (by decide) ?_
      refine am_iinc F [(5, .int (a5 + (5 : Int32))), (7, .int v10), (6, .int v5), (0, .ref b), (1, .ref (z + 0)), (2, .ref (z + 174)), (3, .ref (z + 186)), (4, .ref (z + 187))] 7 dL_law_2501 (by decide) rfl rfl rfl ?_
      refine am_goto F (tgt := 28) dL_law_2504 (by decide) ?_
      exact am_sub (lv' := [(0, .ref b), (1, .ref (z + 0)), (2, .ref (z + 174)), (3, .ref (z + 186)), (4, .ref (z + 187)), (5, .int (a5 + (5 : Int32)))]) [3, 4, 5, 6, 7, 0] rfl (HR (a5 + (5 : Int32)) M12 (cl + 1) (sl + 6) (by omega) (by omega) h)
    · have h := (if_pos c16).symm.trans h
      refine am_aload_n F 5 dL_law_474 rfl rfl ?_
      refine am_iconst F (v := (0 : Int32)) dL_law_475 (by decide) ?_
      obtain ⟨q14, h⟩ := am_ciE h
      refine am_lald F lyk_186 q14 dL_law_476 ?_
      refine am_iload F 0 dL_law_477 rfl ?_
      refine am_i2l F dL_law_479 ?_
      refine am_lcmp F dL_law_480 ?_
      refine am_if_eq F (tgt := 486) dL_law_481 (by decide) (fun c15 => ?_) (fun c15 => ?_)
      · have h := (if_pos c15).symm.trans h
        refine am_goto F (tgt := 2501) dL_law_486 (by decide) ?_
        refine am_iinc F [(5, .int (a5 + (5 : Int32))), (7, .int v10), (6, .int v5), (0, .ref b), (1, .ref (z + 0)), (2, .ref (z + 174)), (3, .ref (z + 186)), (4, .ref (z + 187))] 7 dL_law_2501 (by decide) rfl rfl rfl ?_
        refine am_goto F (tgt := 28) dL_law_2504 (by decide) ?_
        exact am_sub (lv' := [(0, .ref b), (1, .ref (z + 0)), (2, .ref (z + 174)), (3, .ref (z + 186)), (4, .ref (z + 187)), (5, .int (a5 + (5 : Int32)))]) [3, 4, 5, 6, 7, 0] rfl (HR (a5 + (5 : Int32)) M12 (cl + 1) (sl + 6) (by omega) (by omega) h)
      · have h := (if_neg c15).symm.trans h
        cases h
  · have h := (if_neg c17).symm.trans h
    cases h
def g_L_law_J489 (xs : Nat → Int32) (L : Nat) (rc : Int32 → am_M → Option (Unit × am_M)) (a5 : Int32) (M : am_M) : Option (Unit × am_M) := (am_ci (a5 + (1 : Int32)) L (am_ci (a5 + (2 : Int32)) L (am_b (g_L_robot (xs (a5 + (1 : Int32)).toNatClampNeg) (xs (a5 + (2 : Int32)).toNatClampNeg) M) (fun v5 M4 => (am_ci (a5 + (1 : Int32)) L (am_ci (a5 + (2 : Int32)) L (am_b (g_X10_robot (xs (a5 + (1 : Int32)).toNatClampNeg) (xs (a5 + (2 : Int32)).toNatClampNeg) M4) (fun v10 M9 => (am_b (g_X10_thrown  M9) (fun v13 M12 => (if v13 = v5 then (if v5 = (0 : Int32) then (am_ci (0 : Int32) 1 (if (lg_cmp (am_lg M12 186 (0 : Int32).toNatClampNeg) (v10.toInt64)) = (0 : Int32) then (rc (a5 + (5 : Int32)) M12) else none)) else (rc (a5 + (5 : Int32)) M12)) else none)))))))))))
set_option maxHeartbeats 4000000 in
set_option maxRecDepth 100000 in
theorem cj_L_law_J489 {l : Launch} {p : Program} {e : Env} {s : State} {m : MethodId} {args : Array Value} {below : List Frame} {meth : Method} {c : Code} {Q : State → Prop} {D : va_G} {E : Nat → ClassId} {z b L : Nat} {xs : Nat → Int32} (F : am_F p s m args meth c cL_law 9 RL D E z) (hxs : va_X b L xs s s.heap) (hbl : b < s.heap.size) (hbz : ¬ z ≤ b) (hNC : am_NC s) (hls : l.stackTraces = false) (rc : Int32 → am_M → Option (Unit × am_M)) (a5 : Int32) (M M1 : am_M) (cl sl : Nat) (hc9 : cl + 10 ≤ 603072) (hs9 : sl + 60 ≤ 7198826) (h : g_L_law_J489 xs L rc a5 M = some ((), M1)) (HR : ∀ (b5 : Int32) (M2 : am_M) (cl2 sl2 : Nat), cl2 ≤ cl + 10 → sl2 ≤ sl + 60 → rc b5 M2 = some ((), M1) → am_W p l e room_1 s m args below meth c Q 9 D E z cl2 sl2 M2 28 [(0, .ref b), (1, .ref (z + 0)), (2, .ref (z + 174)), (3, .ref (z + 186)), (4, .ref (z + 187)), (5, .int b5)] []) : am_W p l e room_1 s m args below meth c Q 9 D E z cl sl M 489 [(0, .ref b), (1, .ref (z + 0)), (2, .ref (z + 174)), (3, .ref (z + 186)), (4, .ref (z + 187)), (5, .int a5)] [] := by
  unfold g_L_law_J489 at h
  refine am_aload_n F 1 dL_law_489 rfl rfl ?_
  refine am_aload_n F 0 dL_law_490 rfl rfl ?_
  refine am_iload F 5 dL_law_491 rfl ?_
  refine am_iconst F (v := (1 : Int32)) dL_law_493 (by decide) ?_
  refine am_iadd F dL_law_494 ?_
  obtain ⟨q1, h⟩ := am_ciE h
  refine am_sld F hxs hbl hbz q1 dL_law_495 ?_
  refine am_aload_n F 0 dL_law_496 rfl rfl ?_
  refine am_iload F 5 dL_law_497 rfl ?_
  refine am_iconst F (v := (2 : Int32)) dL_law_499 (by decide) ?_
  refine am_iadd F dL_law_500 ?_
  obtain ⟨q2, h⟩ := am_ciE h
  refine am_sld F hxs hbl hbz q2 dL_law_501 ?_
  refine am_aload_n F 3 dL_law_502 rfl rfl ?_
  obtain ⟨v5, M4, h3, h⟩ := am_bE h
  refine am_callL F hNC [.ref (z + 0), .int (xs (a5 + (1 : Int32)).toNatClampNeg), .int (xs (a5 + (2 : Int32)).toNatClampNeg), .ref (z + 186)] cs_L_161 (c_L_robot l hls D E z (xs (a5 + (1 : Int32)).toNatClampNeg) (xs (a5 + (2 : Int32)).toNatClampNeg) M v5 M4 h3) yn_L_robot rfl ⟨Nat.le_of_ble_eq_true rfl, Nat.le_of_ble_eq_true rfl⟩ rfl rfl (Nat.le_of_ble_eq_true rfl) ⟨(show cl + 2 ≤ 603072 by omega), (show sl + 12 ≤ 7198826 by omega)⟩ dL_law_503 rfl ?_
  refine am_istore F [(6, .int v5), (0, .ref b), (1, .ref (z + 0)), (2, .ref (z + 174)), (3, .ref (z + 186)), (4, .ref (z + 187)), (5, .int a5)] dL_law_506 (by decide) rfl ?_
  refine am_aload_n F 3 dL_law_508 rfl rfl ?_
  refine am_aload_n F 1 dL_law_509 rfl rfl ?_
  refine am_iload F 6 dL_law_510 rfl ?_
  refine am_iconst F (v := (1 : Int32)) dL_law_512 (by decide) ?_
  refine am_iadd F dL_law_513 ?_
  obtain ⟨q6, h⟩ := am_ciE h
  refine am_sld F hxs hbl hbz q6 dL_law_514 ?_
  refine am_aload_n F 1 dL_law_515 rfl rfl ?_
  refine am_iload F 6 dL_law_516 rfl ?_
  refine am_iconst F (v := (2 : Int32)) dL_law_518 (by decide) ?_
  refine am_iadd F dL_law_519 ?_
  obtain ⟨q7, h⟩ := am_ciE h
  refine am_sld F hxs hbl hbz q7 dL_law_520 ?_
  obtain ⟨v10, M9, h8, h⟩ := am_bE h
  refine am_callVi F [.int (xs (a5 + (1 : Int32)).toNatClampNeg), .int (xs (a5 + (2 : Int32)).toNatClampNeg)] lyk_174 (by decide) rfl cv_L_163 (c_X10_robot l D E z (xs (a5 + (1 : Int32)).toNatClampNeg) (xs (a5 + (2 : Int32)).toNatClampNeg) M4 v10 M9 h8) yn_X10_robot rfl ⟨Nat.le_of_ble_eq_true rfl, Nat.le_of_ble_eq_true rfl⟩ rfl rfl (Nat.le_of_ble_eq_true rfl) ⟨(show cl + 2 ≤ 603072 by omega), (show sl + 12 ≤ 7198826 by omega)⟩ dL_law_521 rfl ?_
  refine am_istore F [(7, .int v10), (6, .int v5), (0, .ref b), (1, .ref (z + 0)), (2, .ref (z + 174)), (3, .ref (z + 186)), (4, .ref (z + 187)), (5, .int a5)] dL_law_524 (by decide) rfl ?_
  refine am_aload_n F 4 dL_law_526 rfl rfl ?_
  obtain ⟨v13, M12, h11, h⟩ := am_bE h
  refine am_callVi F [] lyk_174 (by decide) rfl cv_L_148 (c_X10_thrown l D E z  M9 v13 M12 h11) yn_X10_thrown rfl ⟨Nat.le_of_ble_eq_true rfl, Nat.le_of_ble_eq_true rfl⟩ rfl rfl (Nat.le_of_ble_eq_true rfl) ⟨(show cl + 2 ≤ 603072 by omega), (show sl + 12 ≤ 7198826 by omega)⟩ dL_law_527 rfl ?_
  refine am_iload F 1 dL_law_530 rfl ?_
  refine am_icmp_eq F (tgt := 537) dL_law_532 (by decide) (fun c17 => ?_) (fun c17 => ?_)
  · have h := (if_pos c17).symm.trans h
    refine am_iload F 1 dL_law_537 rfl ?_
    refine am_if_ne F (tgt := 554) dL_law_539 (by decide) (fun c16 => ?_) (fun c16 => ?_)
    · have h := (if_neg c16).symm.trans h
      refine am_goto F (tgt := 2501) dL_law_554 (by decide) ?_
      refine am_iinc F [(5, .int (a5 + (5 : Int32))), (7, .int v10), (6, .int v5), (0, .ref b), (1, .ref (z + 0)), (2, .ref (z + 174)), (3, .ref (z + 186)), (4, .ref (z + 187))] 7 dL_law_2501 (by decide) rfl rfl rfl ?_
      refine am_goto F (tgt := 28) dL_law_2504 (by decide) ?_
      exact am_sub (lv' := [(0, .ref b), (1, .ref (z + 0)), (2, .ref (z + 174)), (3, .ref (z + 186)), (4, .ref (z + 187)), (5, .int (a5 + (5 : Int32)))]) [3, 4, 5, 6, 7, 0] rfl (HR (a5 + (5 : Int32)) M12 (cl + 2) (sl + 12) (by omega) (by omega) h)
    · have h := (if_pos c16).symm.trans h
      refine am_aload_n F 5 dL_law_542 rfl rfl ?_
      refine am_iconst F (v := (0 : Int32)) dL_law_543 (by decide) ?_
      obtain ⟨q14, h⟩ := am_ciE h
      refine am_lald F lyk_186 q14 dL_law_544 ?_
      refine am_iload F 0 dL_law_545 rfl ?_
      refine am_i2l F dL_law_547 ?_
      refine am_lcmp F dL_law_548 ?_
      refine am_if_eq F (tgt := 554) dL_law_549 (by decide) (fun c15 => ?_) (fun c15 => ?_)
      · have h := (if_pos c15).symm.trans h
        refine am_goto F (tgt := 2501) dL_law_554 (by decide) ?_
        refine am_iinc F [(5, .int (a5 + (5 : Int32))), (7, .int v10), (6, .int v5), (0, .ref b), (1, .ref (z + 0)), (2, .ref (z + 174)), (3, .ref (z + 186)), (4, .ref (z + 187))] 7 dL_law_2501 (by decide) rfl rfl rfl ?_
        refine am_goto F (tgt := 28) dL_law_2504 (by decide) ?_
        exact am_sub (lv' := [(0, .ref b), (1, .ref (z + 0)), (2, .ref (z + 174)), (3, .ref (z + 186)), (4, .ref (z + 187)), (5, .int (a5 + (5 : Int32)))]) [3, 4, 5, 6, 7, 0] rfl (HR (a5 + (5 : Int32)) M12 (cl + 2) (sl + 12) (by omega) (by omega) h)
      · have h := (if_neg c15).symm.trans h
        cases h
  · have h := (if_neg c17).symm.trans h
    cases h
def g_L_law_J557 (xs : Nat → Int32) (L : Nat) (rc : Int32 → am_M → Option (Unit × am_M)) (a5 : Int32) (M : am_M) : Option (Unit × am_M) := (am_ci (a5 + (1 : Int32)) L (am_b (g_L_count (xs (a5 + (1 : Int32)).toNatClampNeg) M) (fun v4 M3 => (am_ci (a5 + (1 : Int32)) L (am_b (g_X10_count (xs (a5 + (1 : Int32)).toNatClampNeg) M3) (fun v8 M7 => (am_b (g_X10_thrown  M7) (fun v11 M10 => (if v11 = v4 then (if v4 = (0 : Int32) then (am_ci (0 : Int32) 1 (if (lg_cmp (am_lg M10 186 (0 : Int32).toNatClampNeg) (v8.toInt64)) = (0 : Int32) then (rc (a5 + (5 : Int32)) M10) else none)) else (rc (a5 + (5 : Int32)) M10)) else none)))))))))
set_option maxHeartbeats 4000000 in
set_option maxRecDepth 100000 in
theorem cj_L_law_J557 {l : Launch} {p : Program} {e : Env} {s : State} {m : MethodId} {args : Array Value} {below : List Frame} {meth : Method} {c : Code} {Q : State → Prop} {D : va_G} {E : Nat → ClassId} {z b L : Nat} {xs : Nat → Int32} (F : am_F p s m args meth c cL_law 9 RL D E z) (hxs : va_X b L xs s s.heap) (hbl : b < s.heap.size) (hbz : ¬ z ≤ b) (hNC : am_NC s) (hls : l.stackTraces = false) (rc : Int32 → am_M → Option (Unit × am_M)) (a5 : Int32) (M M1 : am_M) (cl sl : Nat) (hc9 : cl + 10 ≤ 603072) (hs9 : sl + 60 ≤ 7198826) (h : g_L_law_J557 xs L rc a5 M = some ((), M1)) (HR : ∀ (b5 : Int32) (M2 : am_M) (cl2 sl2 : Nat), cl2 ≤ cl + 10 → sl2 ≤ sl + 60 → rc b5 M2 = some ((), M1) → am_W p l e room_1 s m args below meth c Q 9 D E z cl2 sl2 M2 28 [(0, .ref b), (1, .ref (z + 0)), (2, .ref (z + 174)), (3, .ref (z + 186)), (4, .ref (z + 187)), (5, .int b5)] []) : am_W p l e room_1 s m args below meth c Q 9 D E z cl sl M 557 [(0, .ref b), (1, .ref (z + 0)), (2, .ref (z + 174)), (3, .ref (z + 186)), (4, .ref (z + 187)), (5, .int a5)] [] := by
  unfold g_L_law_J557 at h
  refine am_aload_n F 1 dL_law_557 rfl rfl ?_
  refine am_aload_n F 0 dL_law_558 rfl rfl ?_
  refine am_iload F 5 dL_law_559 rfl ?_
  refine am_iconst F (v := (1 : Int32)) dL_law_561 (by decide) ?_
  refine am_iadd F dL_law_562 ?_
  obtain ⟨q1, h⟩ := am_ciE h
  refine am_sld F hxs hbl hbz q1 dL_law_563 ?_
  refine am_aload_n F 3 dL_law_564 rfl rfl ?_
  obtain ⟨v4, M3, h2, h⟩ := am_bE h
  refine am_callL F hNC [.ref (z + 0), .int (xs (a5 + (1 : Int32)).toNatClampNeg), .ref (z + 186)] cs_L_164 (c_L_count l hls D E z (xs (a5 + (1 : Int32)).toNatClampNeg) M v4 M3 h2) yn_L_count rfl ⟨Nat.le_of_ble_eq_true rfl, Nat.le_of_ble_eq_true rfl⟩ rfl rfl (Nat.le_of_ble_eq_true rfl) ⟨(show cl + 1 ≤ 603072 by omega), (show sl + 6 ≤ 7198826 by omega)⟩ dL_law_565 rfl ?_
  refine am_istore F [(6, .int v4), (0, .ref b), (1, .ref (z + 0)), (2, .ref (z + 174)), (3, .ref (z + 186)), (4, .ref (z + 187)), (5, .int a5)] dL_law_568 (by decide) rfl ?_
  refine am_aload_n F 3 dL_law_570 rfl rfl ?_
  refine am_aload_n F 1 dL_law_571 rfl rfl ?_
  refine am_iload F 6 dL_law_572 rfl ?_
  refine am_iconst F (v := (1 : Int32)) dL_law_574 (by decide) ?_
  refine am_iadd F dL_law_575 ?_
  obtain ⟨q5, h⟩ := am_ciE h
  refine am_sld F hxs hbl hbz q5 dL_law_576 ?_
  obtain ⟨v8, M7, h6, h⟩ := am_bE h
  refine am_callVi F [.int (xs (a5 + (1 : Int32)).toNatClampNeg)] lyk_174 (by decide) rfl cv_L_166 (c_X10_count l D E z (xs (a5 + (1 : Int32)).toNatClampNeg) M3 v8 M7 h6) yn_X10_count rfl ⟨Nat.le_of_ble_eq_true rfl, Nat.le_of_ble_eq_true rfl⟩ rfl rfl (Nat.le_of_ble_eq_true rfl) ⟨(show cl + 1 ≤ 603072 by omega), (show sl + 6 ≤ 7198826 by omega)⟩ dL_law_577 rfl ?_
  refine am_istore F [(7, .int v8), (6, .int v4), (0, .ref b), (1, .ref (z + 0)), (2, .ref (z + 174)), (3, .ref (z + 186)), (4, .ref (z + 187)), (5, .int a5)] dL_law_580 (by decide) rfl ?_
  refine am_aload_n F 4 dL_law_582 rfl rfl ?_
  obtain ⟨v11, M10, h9, h⟩ := am_bE h
  refine am_callVi F [] lyk_174 (by decide) rfl cv_L_148 (c_X10_thrown l D E z  M7 v11 M10 h9) yn_X10_thrown rfl ⟨Nat.le_of_ble_eq_true rfl, Nat.le_of_ble_eq_true rfl⟩ rfl rfl (Nat.le_of_ble_eq_true rfl) ⟨(show cl + 1 ≤ 603072 by omega), (show sl + 6 ≤ 7198826 by omega)⟩ dL_law_583 rfl ?_
  refine am_iload F 1 dL_law_586 rfl ?_
  refine am_icmp_eq F (tgt := 593) dL_law_588 (by decide) (fun c15 => ?_) (fun c15 => ?_)
  · have h := (if_pos c15).symm.trans h
    refine am_iload F 1 dL_law_593 rfl ?_
    refine am_if_ne F (tgt := 610) dL_law_595 (by decide) (fun c14 => ?_) (fun c14 => ?_)
    · have h := (if_neg c14).symm.trans h
      refine am_goto F (tgt := 2501) dL_law_610 (by decide) ?_
      refine am_iinc F [(5, .int (a5 + (5 : Int32))), (7, .int v8), (6, .int v4), (0, .ref b), (1, .ref (z + 0)), (2, .ref (z + 174)), (3, .ref (z + 186)), (4, .ref (z + 187))] 7 dL_law_2501 (by decide) rfl rfl rfl ?_
      refine am_goto F (tgt := 28) dL_law_2504 (by decide) ?_
      exact am_sub (lv' := [(0, .ref b), (1, .ref (z + 0)), (2, .ref (z + 174)), (3, .ref (z + 186)), (4, .ref (z + 187)), (5, .int (a5 + (5 : Int32)))]) [3, 4, 5, 6, 7, 0] rfl (HR (a5 + (5 : Int32)) M10 (cl + 1) (sl + 6) (by omega) (by omega) h)
    · have h := (if_pos c14).symm.trans h
      refine am_aload_n F 5 dL_law_598 rfl rfl ?_
      refine am_iconst F (v := (0 : Int32)) dL_law_599 (by decide) ?_
      obtain ⟨q12, h⟩ := am_ciE h
      refine am_lald F lyk_186 q12 dL_law_600 ?_
      refine am_iload F 0 dL_law_601 rfl ?_
      refine am_i2l F dL_law_603 ?_
      refine am_lcmp F dL_law_604 ?_
      refine am_if_eq F (tgt := 610) dL_law_605 (by decide) (fun c13 => ?_) (fun c13 => ?_)
      · have h := (if_pos c13).symm.trans h
        refine am_goto F (tgt := 2501) dL_law_610 (by decide) ?_
        refine am_iinc F [(5, .int (a5 + (5 : Int32))), (7, .int v8), (6, .int v4), (0, .ref b), (1, .ref (z + 0)), (2, .ref (z + 174)), (3, .ref (z + 186)), (4, .ref (z + 187))] 7 dL_law_2501 (by decide) rfl rfl rfl ?_
        refine am_goto F (tgt := 28) dL_law_2504 (by decide) ?_
        exact am_sub (lv' := [(0, .ref b), (1, .ref (z + 0)), (2, .ref (z + 174)), (3, .ref (z + 186)), (4, .ref (z + 187)), (5, .int (a5 + (5 : Int32)))]) [3, 4, 5, 6, 7, 0] rfl (HR (a5 + (5 : Int32)) M10 (cl + 1) (sl + 6) (by omega) (by omega) h)
      · have h := (if_neg c13).symm.trans h
        cases h
  · have h := (if_neg c15).symm.trans h
    cases h
def g_L_law_J613 (xs : Nat → Int32) (L : Nat) (rc : Int32 → am_M → Option (Unit × am_M)) (a5 : Int32) (M : am_M) : Option (Unit × am_M) := (am_ci (a5 + (1 : Int32)) L (am_b (g_L_region (xs (a5 + (1 : Int32)).toNatClampNeg) M) (fun v4 M3 => (am_ci (a5 + (1 : Int32)) L (am_b (g_X10_region (xs (a5 + (1 : Int32)).toNatClampNeg) M3) (fun v8 M7 => (am_b (g_X10_thrown  M7) (fun v11 M10 => (if v11 = v4 then (if v4 = (0 : Int32) then (am_ci (0 : Int32) 1 (if (lg_cmp (am_lg M10 186 (0 : Int32).toNatClampNeg) (v8.toInt64)) = (0 : Int32) then (rc (a5 + (5 : Int32)) M10) else none)) else (rc (a5 + (5 : Int32)) M10)) else none)))))))))
set_option maxHeartbeats 4000000 in
set_option maxRecDepth 100000 in
theorem cj_L_law_J613 {l : Launch} {p : Program} {e : Env} {s : State} {m : MethodId} {args : Array Value} {below : List Frame} {meth : Method} {c : Code} {Q : State → Prop} {D : va_G} {E : Nat → ClassId} {z b L : Nat} {xs : Nat → Int32} (F : am_F p s m args meth c cL_law 9 RL D E z) (hxs : va_X b L xs s s.heap) (hbl : b < s.heap.size) (hbz : ¬ z ≤ b) (hNC : am_NC s) (hls : l.stackTraces = false) (rc : Int32 → am_M → Option (Unit × am_M)) (a5 : Int32) (M M1 : am_M) (cl sl : Nat) (hc9 : cl + 10 ≤ 603072) (hs9 : sl + 60 ≤ 7198826) (h : g_L_law_J613 xs L rc a5 M = some ((), M1)) (HR : ∀ (b5 : Int32) (M2 : am_M) (cl2 sl2 : Nat), cl2 ≤ cl + 10 → sl2 ≤ sl + 60 → rc b5 M2 = some ((), M1) → am_W p l e room_1 s m args below meth c Q 9 D E z cl2 sl2 M2 28 [(0, .ref b), (1, .ref (z + 0)), (2, .ref (z + 174)), (3, .ref (z + 186)), (4, .ref (z + 187)), (5, .int b5)] []) : am_W p l e room_1 s m args below meth c Q 9 D E z cl sl M 613 [(0, .ref b), (1, .ref (z + 0)), (2, .ref (z + 174)), (3, .ref (z + 186)), (4, .ref (z + 187)), (5, .int a5)] [] := by
  unfold g_L_law_J613 at h
  refine am_aload_n F 1 dL_law_613 rfl rfl ?_
  refine am_aload_n F 0 dL_law_614 rfl rfl ?_
  refine am_iload F 5 dL_law_615 rfl ?_
  refine am_iconst F (v := (1 : Int32)) dL_law_617 (by decide) ?_
  refine am_iadd F dL_law_618 ?_
  obtain ⟨q1, h⟩ := am_ciE h
  refine am_sld F hxs hbl hbz q1 dL_law_619 ?_
  refine am_aload_n F 3 dL_law_620 rfl rfl ?_
  obtain ⟨v4, M3, h2, h⟩ := am_bE h
  refine am_callL F hNC [.ref (z + 0), .int (xs (a5 + (1 : Int32)).toNatClampNeg), .ref (z + 186)] cs_L_167 (c_L_region l hls D E z (xs (a5 + (1 : Int32)).toNatClampNeg) M v4 M3 h2) yn_L_region rfl ⟨Nat.le_of_ble_eq_true rfl, Nat.le_of_ble_eq_true rfl⟩ rfl rfl (Nat.le_of_ble_eq_true rfl) ⟨(show cl + 1 ≤ 603072 by omega), (show sl + 6 ≤ 7198826 by omega)⟩ dL_law_621 rfl ?_
  refine am_istore F [(6, .int v4), (0, .ref b), (1, .ref (z + 0)), (2, .ref (z + 174)), (3, .ref (z + 186)), (4, .ref (z + 187)), (5, .int a5)] dL_law_624 (by decide) rfl ?_
  refine am_aload_n F 3 dL_law_626 rfl rfl ?_
  refine am_aload_n F 1 dL_law_627 rfl rfl ?_
  refine am_iload F 6 dL_law_628 rfl ?_
  refine am_iconst F (v := (1 : Int32)) dL_law_630 (by decide) ?_
  refine am_iadd F dL_law_631 ?_
  obtain ⟨q5, h⟩ := am_ciE h
  refine am_sld F hxs hbl hbz q5 dL_law_632 ?_
  obtain ⟨v8, M7, h6, h⟩ := am_bE h
  refine am_callVi F [.int (xs (a5 + (1 : Int32)).toNatClampNeg)] lyk_174 (by decide) rfl cv_L_169 (c_X10_region l D E z (xs (a5 + (1 : Int32)).toNatClampNeg) M3 v8 M7 h6) yn_X10_region rfl ⟨Nat.le_of_ble_eq_true rfl, Nat.le_of_ble_eq_true rfl⟩ rfl rfl (Nat.le_of_ble_eq_true rfl) ⟨(show cl + 1 ≤ 603072 by omega), (show sl + 6 ≤ 7198826 by omega)⟩ dL_law_633 rfl ?_
  refine am_istore F [(7, .int v8), (6, .int v4), (0, .ref b), (1, .ref (z + 0)), (2, .ref (z + 174)), (3, .ref (z + 186)), (4, .ref (z + 187)), (5, .int a5)] dL_law_636 (by decide) rfl ?_
  refine am_aload_n F 4 dL_law_638 rfl rfl ?_
  obtain ⟨v11, M10, h9, h⟩ := am_bE h
  refine am_callVi F [] lyk_174 (by decide) rfl cv_L_148 (c_X10_thrown l D E z  M7 v11 M10 h9) yn_X10_thrown rfl ⟨Nat.le_of_ble_eq_true rfl, Nat.le_of_ble_eq_true rfl⟩ rfl rfl (Nat.le_of_ble_eq_true rfl) ⟨(show cl + 1 ≤ 603072 by omega), (show sl + 6 ≤ 7198826 by omega)⟩ dL_law_639 rfl ?_
  refine am_iload F 1 dL_law_642 rfl ?_
  refine am_icmp_eq F (tgt := 649) dL_law_644 (by decide) (fun c15 => ?_) (fun c15 => ?_)
  · have h := (if_pos c15).symm.trans h
    refine am_iload F 1 dL_law_649 rfl ?_
    refine am_if_ne F (tgt := 666) dL_law_651 (by decide) (fun c14 => ?_) (fun c14 => ?_)
    · have h := (if_neg c14).symm.trans h
      refine am_goto F (tgt := 2501) dL_law_666 (by decide) ?_
      refine am_iinc F [(5, .int (a5 + (5 : Int32))), (7, .int v8), (6, .int v4), (0, .ref b), (1, .ref (z + 0)), (2, .ref (z + 174)), (3, .ref (z + 186)), (4, .ref (z + 187))] 7 dL_law_2501 (by decide) rfl rfl rfl ?_
      refine am_goto F (tgt := 28) dL_law_2504 (by decide) ?_
      exact am_sub (lv' := [(0, .ref b), (1, .ref (z + 0)), (2, .ref (z + 174)), (3, .ref (z + 186)), (4, .ref (z + 187)), (5, .int (a5 + (5 : Int32)))]) [3, 4, 5, 6, 7, 0] rfl (HR (a5 + (5 : Int32)) M10 (cl + 1) (sl + 6) (by omega) (by omega) h)
    · have h := (if_pos c14).symm.trans h
      refine am_aload_n F 5 dL_law_654 rfl rfl ?_
      refine am_iconst F (v := (0 : Int32)) dL_law_655 (by decide) ?_
      obtain ⟨q12, h⟩ := am_ciE h
      refine am_lald F lyk_186 q12 dL_law_656 ?_
      refine am_iload F 0 dL_law_657 rfl ?_
      refine am_i2l F dL_law_659 ?_
      refine am_lcmp F dL_law_660 ?_
      refine am_if_eq F (tgt := 666) dL_law_661 (by decide) (fun c13 => ?_) (fun c13 => ?_)
      · have h := (if_pos c13).symm.trans h
        refine am_goto F (tgt := 2501) dL_law_666 (by decide) ?_
        refine am_iinc F [(5, .int (a5 + (5 : Int32))), (7, .int v8), (6, .int v4), (0, .ref b), (1, .ref (z + 0)), (2, .ref (z + 174)), (3, .ref (z + 186)), (4, .ref (z + 187))] 7 dL_law_2501 (by decide) rfl rfl rfl ?_
        refine am_goto F (tgt := 28) dL_law_2504 (by decide) ?_
        exact am_sub (lv' := [(0, .ref b), (1, .ref (z + 0)), (2, .ref (z + 174)), (3, .ref (z + 186)), (4, .ref (z + 187)), (5, .int (a5 + (5 : Int32)))]) [3, 4, 5, 6, 7, 0] rfl (HR (a5 + (5 : Int32)) M10 (cl + 1) (sl + 6) (by omega) (by omega) h)
      · have h := (if_neg c13).symm.trans h
        cases h
  · have h := (if_neg c15).symm.trans h
    cases h
def g_L_law_J669 (xs : Nat → Int32) (L : Nat) (rc : Int32 → am_M → Option (Unit × am_M)) (a5 : Int32) (M : am_M) : Option (Unit × am_M) := (am_ci (a5 + (1 : Int32)) L (am_ci (a5 + (2 : Int32)) L (am_b (g_L_ticksBetween (xs (a5 + (1 : Int32)).toNatClampNeg) (xs (a5 + (2 : Int32)).toNatClampNeg) M) (fun v5 M4 => (am_ci (a5 + (1 : Int32)) L (am_ci (a5 + (2 : Int32)) L (am_b (g_X10_ticksBetween (xs (a5 + (1 : Int32)).toNatClampNeg) (xs (a5 + (2 : Int32)).toNatClampNeg) M4) (fun v10 M9 => (am_b (g_X10_thrown  M9) (fun v13 M12 => (if v13 = v5 then (if v5 = (0 : Int32) then (am_ci (0 : Int32) 1 (if (lg_cmp (am_lg M12 186 (0 : Int32).toNatClampNeg) (v10.toInt64)) = (0 : Int32) then (rc (a5 + (5 : Int32)) M12) else none)) else (rc (a5 + (5 : Int32)) M12)) else none)))))))))))
set_option maxHeartbeats 4000000 in
set_option maxRecDepth 100000 in
theorem cj_L_law_J669 {l : Launch} {p : Program} {e : Env} {s : State} {m : MethodId} {args : Array Value} {below : List Frame} {meth : Method} {c : Code} {Q : State → Prop} {D : va_G} {E : Nat → ClassId} {z b L : Nat} {xs : Nat → Int32} (F : am_F p s m args meth c cL_law 9 RL D E z) (hxs : va_X b L xs s s.heap) (hbl : b < s.heap.size) (hbz : ¬ z ≤ b) (hNC : am_NC s) (hls : l.stackTraces = false) (rc : Int32 → am_M → Option (Unit × am_M)) (a5 : Int32) (M M1 : am_M) (cl sl : Nat) (hc9 : cl + 10 ≤ 603072) (hs9 : sl + 60 ≤ 7198826) (h : g_L_law_J669 xs L rc a5 M = some ((), M1)) (HR : ∀ (b5 : Int32) (M2 : am_M) (cl2 sl2 : Nat), cl2 ≤ cl + 10 → sl2 ≤ sl + 60 → rc b5 M2 = some ((), M1) → am_W p l e room_1 s m args below meth c Q 9 D E z cl2 sl2 M2 28 [(0, .ref b), (1, .ref (z + 0)), (2, .ref (z + 174)), (3, .ref (z + 186)), (4, .ref (z + 187)), (5, .int b5)] []) : am_W p l e room_1 s m args below meth c Q 9 D E z cl sl M 669 [(0, .ref b), (1, .ref (z + 0)), (2, .ref (z + 174)), (3, .ref (z + 186)), (4, .ref (z + 187)), (5, .int a5)] [] := by
  unfold g_L_law_J669 at h
  refine am_aload_n F 1 dL_law_669 rfl rfl ?_
  refine am_aload_n F 0 dL_law_670 rfl rfl ?_
  refine am_iload F 5 dL_law_671 rfl ?_
  refine am_iconst F (v := (1 : Int32)) dL_law_673 (by decide) ?_
  refine am_iadd F dL_law_674 ?_
  obtain ⟨q1, h⟩ := am_ciE h
  refine am_sld F hxs hbl hbz q1 dL_law_675 ?_
  refine am_aload_n F 0 dL_law_676 rfl rfl ?_
  refine am_iload F 5 dL_law_677 rfl ?_
  refine am_iconst F (v := (2 : Int32)) dL_law_679 (by decide) ?_
  refine am_iadd F dL_law_680 ?_
  obtain ⟨q2, h⟩ := am_ciE h
  refine am_sld F hxs hbl hbz q2 dL_law_681 ?_
  refine am_aload_n F 3 dL_law_682 rfl rfl ?_
  obtain ⟨v5, M4, h3, h⟩ := am_bE h
  refine am_callL F hNC [.ref (z + 0), .int (xs (a5 + (1 : Int32)).toNatClampNeg), .int (xs (a5 + (2 : Int32)).toNatClampNeg), .ref (z + 186)] cs_L_170 (c_L_ticksBetween l hls D E z (xs (a5 + (1 : Int32)).toNatClampNeg) (xs (a5 + (2 : Int32)).toNatClampNeg) M v5 M4 h3) yn_L_ticksBetween rfl ⟨Nat.le_of_ble_eq_true rfl, Nat.le_of_ble_eq_true rfl⟩ rfl rfl (Nat.le_of_ble_eq_true rfl) ⟨(show cl + 3 ≤ 603072 by omega), (show sl + 18 ≤ 7198826 by omega)⟩ dL_law_683 rfl ?_
  refine am_istore F [(6, .int v5), (0, .ref b), (1, .ref (z + 0)), (2, .ref (z + 174)), (3, .ref (z + 186)), (4, .ref (z + 187)), (5, .int a5)] dL_law_686 (by decide) rfl ?_
  refine am_aload_n F 3 dL_law_688 rfl rfl ?_
  refine am_aload_n F 1 dL_law_689 rfl rfl ?_
  refine am_iload F 6 dL_law_690 rfl ?_
  refine am_iconst F (v := (1 : Int32)) dL_law_692 (by decide) ?_
  refine am_iadd F dL_law_693 ?_
  obtain ⟨q6, h⟩ := am_ciE h
  refine am_sld F hxs hbl hbz q6 dL_law_694 ?_
  refine am_aload_n F 1 dL_law_695 rfl rfl ?_
  refine am_iload F 6 dL_law_696 rfl ?_
  refine am_iconst F (v := (2 : Int32)) dL_law_698 (by decide) ?_
  refine am_iadd F dL_law_699 ?_
  obtain ⟨q7, h⟩ := am_ciE h
  refine am_sld F hxs hbl hbz q7 dL_law_700 ?_
  obtain ⟨v10, M9, h8, h⟩ := am_bE h
  refine am_callVi F [.int (xs (a5 + (1 : Int32)).toNatClampNeg), .int (xs (a5 + (2 : Int32)).toNatClampNeg)] lyk_174 (by decide) rfl cv_L_172 (c_X10_ticksBetween l D E z (xs (a5 + (1 : Int32)).toNatClampNeg) (xs (a5 + (2 : Int32)).toNatClampNeg) M4 v10 M9 h8) yn_X10_ticksBetween rfl ⟨Nat.le_of_ble_eq_true rfl, Nat.le_of_ble_eq_true rfl⟩ rfl rfl (Nat.le_of_ble_eq_true rfl) ⟨(show cl + 3 ≤ 603072 by omega), (show sl + 18 ≤ 7198826 by omega)⟩ dL_law_701 rfl ?_
  refine am_istore F [(7, .int v10), (6, .int v5), (0, .ref b), (1, .ref (z + 0)), (2, .ref (z + 174)), (3, .ref (z + 186)), (4, .ref (z + 187)), (5, .int a5)] dL_law_704 (by decide) rfl ?_
  refine am_aload_n F 4 dL_law_706 rfl rfl ?_
  obtain ⟨v13, M12, h11, h⟩ := am_bE h
  refine am_callVi F [] lyk_174 (by decide) rfl cv_L_148 (c_X10_thrown l D E z  M9 v13 M12 h11) yn_X10_thrown rfl ⟨Nat.le_of_ble_eq_true rfl, Nat.le_of_ble_eq_true rfl⟩ rfl rfl (Nat.le_of_ble_eq_true rfl) ⟨(show cl + 3 ≤ 603072 by omega), (show sl + 18 ≤ 7198826 by omega)⟩ dL_law_707 rfl ?_
  refine am_iload F 1 dL_law_710 rfl ?_
  refine am_icmp_eq F (tgt := 717) dL_law_712 (by decide) (fun c17 => ?_) (fun c17 => ?_)
  · have h := (if_pos c17).symm.trans h
    refine am_iload F 1 dL_law_717 rfl ?_
    refine am_if_ne F (tgt := 734) dL_law_719 (by decide) (fun c16 => ?_) (fun c16 => ?_)
    · have h := (if_neg c16).symm.trans h
      refine am_goto F (tgt := 2501) dL_law_734 (by decide) ?_
      refine am_iinc F [(5, .int (a5 + (5 : Int32))), (7, .int v10), (6, .int v5), (0, .ref b), (1, .ref (z + 0)), (2, .ref (z + 174)), (3, .ref (z + 186)), (4, .ref (z + 187))] 7 dL_law_2501 (by decide) rfl rfl rfl ?_
      refine am_goto F (tgt := 28) dL_law_2504 (by decide) ?_
      exact am_sub (lv' := [(0, .ref b), (1, .ref (z + 0)), (2, .ref (z + 174)), (3, .ref (z + 186)), (4, .ref (z + 187)), (5, .int (a5 + (5 : Int32)))]) [3, 4, 5, 6, 7, 0] rfl (HR (a5 + (5 : Int32)) M12 (cl + 3) (sl + 18) (by omega) (by omega) h)
    · have h := (if_pos c16).symm.trans h
      refine am_aload_n F 5 dL_law_722 rfl rfl ?_
      refine am_iconst F (v := (0 : Int32)) dL_law_723 (by decide) ?_
      obtain ⟨q14, h⟩ := am_ciE h
      refine am_lald F lyk_186 q14 dL_law_724 ?_
      refine am_iload F 0 dL_law_725 rfl ?_
      refine am_i2l F dL_law_727 ?_
      refine am_lcmp F dL_law_728 ?_
      refine am_if_eq F (tgt := 734) dL_law_729 (by decide) (fun c15 => ?_) (fun c15 => ?_)
      · have h := (if_pos c15).symm.trans h
        refine am_goto F (tgt := 2501) dL_law_734 (by decide) ?_
        refine am_iinc F [(5, .int (a5 + (5 : Int32))), (7, .int v10), (6, .int v5), (0, .ref b), (1, .ref (z + 0)), (2, .ref (z + 174)), (3, .ref (z + 186)), (4, .ref (z + 187))] 7 dL_law_2501 (by decide) rfl rfl rfl ?_
        refine am_goto F (tgt := 28) dL_law_2504 (by decide) ?_
        exact am_sub (lv' := [(0, .ref b), (1, .ref (z + 0)), (2, .ref (z + 174)), (3, .ref (z + 186)), (4, .ref (z + 187)), (5, .int (a5 + (5 : Int32)))]) [3, 4, 5, 6, 7, 0] rfl (HR (a5 + (5 : Int32)) M12 (cl + 3) (sl + 18) (by omega) (by omega) h)
      · have h := (if_neg c15).symm.trans h
        cases h
  · have h := (if_neg c17).symm.trans h
    cases h
def g_L_law_J737 (xs : Nat → Int32) (L : Nat) (rc : Int32 → am_M → Option (Unit × am_M)) (a5 : Int32) (M : am_M) : Option (Unit × am_M) := (am_ci (a5 + (1 : Int32)) L (am_ci (a5 + (2 : Int32)) L (am_b (g_L_plan (xs (a5 + (1 : Int32)).toNatClampNeg) (xs (a5 + (2 : Int32)).toNatClampNeg) M) (fun v5 M4 => (am_ci (a5 + (1 : Int32)) L (am_ci (a5 + (2 : Int32)) L (am_b (g_X10_plan (xs (a5 + (1 : Int32)).toNatClampNeg) (xs (a5 + (2 : Int32)).toNatClampNeg) M4) (fun v10 M9 => (am_b (g_X10_thrown  M9) (fun v13 M12 => (if v13 = v5 then (if v5 = (0 : Int32) then (am_ci (0 : Int32) 1 (if (lg_cmp (am_lg M12 186 (0 : Int32).toNatClampNeg) (v10.toInt64)) = (0 : Int32) then (rc (a5 + (5 : Int32)) M12) else none)) else (rc (a5 + (5 : Int32)) M12)) else none)))))))))))
set_option maxHeartbeats 4000000 in
set_option maxRecDepth 100000 in
theorem cj_L_law_J737 {l : Launch} {p : Program} {e : Env} {s : State} {m : MethodId} {args : Array Value} {below : List Frame} {meth : Method} {c : Code} {Q : State → Prop} {D : va_G} {E : Nat → ClassId} {z b L : Nat} {xs : Nat → Int32} (F : am_F p s m args meth c cL_law 9 RL D E z) (hxs : va_X b L xs s s.heap) (hbl : b < s.heap.size) (hbz : ¬ z ≤ b) (hNC : am_NC s) (hls : l.stackTraces = false) (rc : Int32 → am_M → Option (Unit × am_M)) (a5 : Int32) (M M1 : am_M) (cl sl : Nat) (hc9 : cl + 10 ≤ 603072) (hs9 : sl + 60 ≤ 7198826) (h : g_L_law_J737 xs L rc a5 M = some ((), M1)) (HR : ∀ (b5 : Int32) (M2 : am_M) (cl2 sl2 : Nat), cl2 ≤ cl + 10 → sl2 ≤ sl + 60 → rc b5 M2 = some ((), M1) → am_W p l e room_1 s m args below meth c Q 9 D E z cl2 sl2 M2 28 [(0, .ref b), (1, .ref (z + 0)), (2, .ref (z + 174)), (3, .ref (z + 186)), (4, .ref (z + 187)), (5, .int b5)] []) : am_W p l e room_1 s m args below meth c Q 9 D E z cl sl M 737 [(0, .ref b), (1, .ref (z + 0)), (2, .ref (z + 174)), (3, .ref (z + 186)), (4, .ref (z + 187)), (5, .int a5)] [] := by
  unfold g_L_law_J737 at h
  refine am_aload_n F 1 dL_law_737 rfl rfl ?_
  refine am_aload_n F 0 dL_law_738 rfl rfl ?_
  refine am_iload F 5 dL_law_739 rfl ?_
  refine am_iconst F (v := (1 : Int32)) dL_law_741 (by decide) ?_
  refine am_iadd F dL_law_742 ?_
  obtain ⟨q1, h⟩ := am_ciE h
  refine am_sld F hxs hbl hbz q1 dL_law_743 ?_
  refine am_aload_n F 0 dL_law_744 rfl rfl ?_
  refine am_iload F 5 dL_law_745 rfl ?_
  refine am_iconst F (v := (2 : Int32)) dL_law_747 (by decide) ?_
  refine am_iadd F dL_law_748 ?_
  obtain ⟨q2, h⟩ := am_ciE h
  refine am_sld F hxs hbl hbz q2 dL_law_749 ?_
  refine am_aload_n F 3 dL_law_750 rfl rfl ?_
  obtain ⟨v5, M4, h3, h⟩ := am_bE h
  refine am_callL F hNC [.ref (z + 0), .int (xs (a5 + (1 : Int32)).toNatClampNeg), .int (xs (a5 + (2 : Int32)).toNatClampNeg), .ref (z + 186)] cs_L_173 (c_L_plan l hls D E z (xs (a5 + (1 : Int32)).toNatClampNeg) (xs (a5 + (2 : Int32)).toNatClampNeg) M v5 M4 h3) yn_L_plan rfl ⟨Nat.le_of_ble_eq_true rfl, Nat.le_of_ble_eq_true rfl⟩ rfl rfl (Nat.le_of_ble_eq_true rfl) ⟨(show cl + 5 ≤ 603072 by omega), (show sl + 30 ≤ 7198826 by omega)⟩ dL_law_751 rfl ?_
  refine am_istore F [(6, .int v5), (0, .ref b), (1, .ref (z + 0)), (2, .ref (z + 174)), (3, .ref (z + 186)), (4, .ref (z + 187)), (5, .int a5)] dL_law_754 (by decide) rfl ?_
  refine am_aload_n F 3 dL_law_756 rfl rfl ?_
  refine am_aload_n F 1 dL_law_757 rfl rfl ?_
  refine am_iload F 6 dL_law_758 rfl ?_
  refine am_iconst F (v := (1 : Int32)) dL_law_760 (by decide) ?_
  refine am_iadd F dL_law_761 ?_
  obtain ⟨q6, h⟩ := am_ciE h
  refine am_sld F hxs hbl hbz q6 dL_law_762 ?_
  refine am_aload_n F 1 dL_law_763 rfl rfl ?_
  refine am_iload F 6 dL_law_764 rfl ?_
  refine am_iconst F (v := (2 : Int32)) dL_law_766 (by decide) ?_
  refine am_iadd F dL_law_767 ?_
  obtain ⟨q7, h⟩ := am_ciE h
  refine am_sld F hxs hbl hbz q7 dL_law_768 ?_
  obtain ⟨v10, M9, h8, h⟩ := am_bE h
  refine am_callVi F [.int (xs (a5 + (1 : Int32)).toNatClampNeg), .int (xs (a5 + (2 : Int32)).toNatClampNeg)] lyk_174 (by decide) rfl cv_L_175 (c_X10_plan l D E z (xs (a5 + (1 : Int32)).toNatClampNeg) (xs (a5 + (2 : Int32)).toNatClampNeg) M4 v10 M9 h8) yn_X10_plan rfl ⟨Nat.le_of_ble_eq_true rfl, Nat.le_of_ble_eq_true rfl⟩ rfl rfl (Nat.le_of_ble_eq_true rfl) ⟨(show cl + 5 ≤ 603072 by omega), (show sl + 30 ≤ 7198826 by omega)⟩ dL_law_769 rfl ?_
  refine am_istore F [(7, .int v10), (6, .int v5), (0, .ref b), (1, .ref (z + 0)), (2, .ref (z + 174)), (3, .ref (z + 186)), (4, .ref (z + 187)), (5, .int a5)] dL_law_772 (by decide) rfl ?_
  refine am_aload_n F 4 dL_law_774 rfl rfl ?_
  obtain ⟨v13, M12, h11, h⟩ := am_bE h
  refine am_callVi F [] lyk_174 (by decide) rfl cv_L_148 (c_X10_thrown l D E z  M9 v13 M12 h11) yn_X10_thrown rfl ⟨Nat.le_of_ble_eq_true rfl, Nat.le_of_ble_eq_true rfl⟩ rfl rfl (Nat.le_of_ble_eq_true rfl) ⟨(show cl + 5 ≤ 603072 by omega), (show sl + 30 ≤ 7198826 by omega)⟩ dL_law_775 rfl ?_
  refine am_iload F 1 dL_law_778 rfl ?_
  refine am_icmp_eq F (tgt := 785) dL_law_780 (by decide) (fun c17 => ?_) (fun c17 => ?_)
  · have h := (if_pos c17).symm.trans h
    refine am_iload F 1 dL_law_785 rfl ?_
    refine am_if_ne F (tgt := 802) dL_law_787 (by decide) (fun c16 => ?_) (fun c16 => ?_)
    · have h := (if_neg c16).symm.trans h
      refine am_goto F (tgt := 2501) dL_law_802 (by decide) ?_
      refine am_iinc F [(5, .int (a5 + (5 : Int32))), (7, .int v10), (6, .int v5), (0, .ref b), (1, .ref (z + 0)), (2, .ref (z + 174)), (3, .ref (z + 186)), (4, .ref (z + 187))] 7 dL_law_2501 (by decide) rfl rfl rfl ?_
      refine am_goto F (tgt := 28) dL_law_2504 (by decide) ?_
      exact am_sub (lv' := [(0, .ref b), (1, .ref (z + 0)), (2, .ref (z + 174)), (3, .ref (z + 186)), (4, .ref (z + 187)), (5, .int (a5 + (5 : Int32)))]) [3, 4, 5, 6, 7, 0] rfl (HR (a5 + (5 : Int32)) M12 (cl + 5) (sl + 30) (by omega) (by omega) h)
    · have h := (if_pos c16).symm.trans h
      refine am_aload_n F 5 dL_law_790 rfl rfl ?_
      refine am_iconst F (v := (0 : Int32)) dL_law_791 (by decide) ?_
      obtain ⟨q14, h⟩ := am_ciE h
      refine am_lald F lyk_186 q14 dL_law_792 ?_
      refine am_iload F 0 dL_law_793 rfl ?_
      refine am_i2l F dL_law_795 ?_
      refine am_lcmp F dL_law_796 ?_
      refine am_if_eq F (tgt := 802) dL_law_797 (by decide) (fun c15 => ?_) (fun c15 => ?_)
      · have h := (if_pos c15).symm.trans h
        refine am_goto F (tgt := 2501) dL_law_802 (by decide) ?_
        refine am_iinc F [(5, .int (a5 + (5 : Int32))), (7, .int v10), (6, .int v5), (0, .ref b), (1, .ref (z + 0)), (2, .ref (z + 174)), (3, .ref (z + 186)), (4, .ref (z + 187))] 7 dL_law_2501 (by decide) rfl rfl rfl ?_
        refine am_goto F (tgt := 28) dL_law_2504 (by decide) ?_
        exact am_sub (lv' := [(0, .ref b), (1, .ref (z + 0)), (2, .ref (z + 174)), (3, .ref (z + 186)), (4, .ref (z + 187)), (5, .int (a5 + (5 : Int32)))]) [3, 4, 5, 6, 7, 0] rfl (HR (a5 + (5 : Int32)) M12 (cl + 5) (sl + 30) (by omega) (by omega) h)
      · have h := (if_neg c15).symm.trans h
        cases h
  · have h := (if_neg c17).symm.trans h
    cases h
def g_L_law_J805 (xs : Nat → Int32) (L : Nat) (rc : Int32 → am_M → Option (Unit × am_M)) (a5 : Int32) (M : am_M) : Option (Unit × am_M) := (am_ci (a5 + (1 : Int32)) L (am_ci (a5 + (2 : Int32)) L (am_b (g_L_arrival (xs (a5 + (1 : Int32)).toNatClampNeg) (xs (a5 + (2 : Int32)).toNatClampNeg) M) (fun v5 M4 => (am_ci (a5 + (1 : Int32)) L (am_ci (a5 + (2 : Int32)) L (am_b (g_X10_arrival (xs (a5 + (1 : Int32)).toNatClampNeg) (xs (a5 + (2 : Int32)).toNatClampNeg) M4) (fun v10 M9 => (am_b (g_X10_thrown  M9) (fun v13 M12 => (if v13 = v5 then (if v5 = (0 : Int32) then (am_ci (0 : Int32) 1 (if (lg_cmp (am_lg M12 186 (0 : Int32).toNatClampNeg) (v10.toInt64)) = (0 : Int32) then (rc (a5 + (5 : Int32)) M12) else none)) else (rc (a5 + (5 : Int32)) M12)) else none)))))))))))
set_option maxHeartbeats 4000000 in
set_option maxRecDepth 100000 in
theorem cj_L_law_J805 {l : Launch} {p : Program} {e : Env} {s : State} {m : MethodId} {args : Array Value} {below : List Frame} {meth : Method} {c : Code} {Q : State → Prop} {D : va_G} {E : Nat → ClassId} {z b L : Nat} {xs : Nat → Int32} (F : am_F p s m args meth c cL_law 9 RL D E z) (hxs : va_X b L xs s s.heap) (hbl : b < s.heap.size) (hbz : ¬ z ≤ b) (hNC : am_NC s) (hls : l.stackTraces = false) (rc : Int32 → am_M → Option (Unit × am_M)) (a5 : Int32) (M M1 : am_M) (cl sl : Nat) (hc9 : cl + 10 ≤ 603072) (hs9 : sl + 60 ≤ 7198826) (h : g_L_law_J805 xs L rc a5 M = some ((), M1)) (HR : ∀ (b5 : Int32) (M2 : am_M) (cl2 sl2 : Nat), cl2 ≤ cl + 10 → sl2 ≤ sl + 60 → rc b5 M2 = some ((), M1) → am_W p l e room_1 s m args below meth c Q 9 D E z cl2 sl2 M2 28 [(0, .ref b), (1, .ref (z + 0)), (2, .ref (z + 174)), (3, .ref (z + 186)), (4, .ref (z + 187)), (5, .int b5)] []) : am_W p l e room_1 s m args below meth c Q 9 D E z cl sl M 805 [(0, .ref b), (1, .ref (z + 0)), (2, .ref (z + 174)), (3, .ref (z + 186)), (4, .ref (z + 187)), (5, .int a5)] [] := by
  unfold g_L_law_J805 at h
  refine am_aload_n F 1 dL_law_805 rfl rfl ?_
  refine am_aload_n F 0 dL_law_806 rfl rfl ?_
  refine am_iload F 5 dL_law_807 rfl ?_
  refine am_iconst F (v := (1 : Int32)) dL_law_809 (by decide) ?_
  refine am_iadd F dL_law_810 ?_
  obtain ⟨q1, h⟩ := am_ciE h
  refine am_sld F hxs hbl hbz q1 dL_law_811 ?_
  refine am_aload_n F 0 dL_law_812 rfl rfl ?_
  refine am_iload F 5 dL_law_813 rfl ?_
  refine am_iconst F (v := (2 : Int32)) dL_law_815 (by decide) ?_
  refine am_iadd F dL_law_816 ?_
  obtain ⟨q2, h⟩ := am_ciE h
  refine am_sld F hxs hbl hbz q2 dL_law_817 ?_
  refine am_aload_n F 3 dL_law_818 rfl rfl ?_
  obtain ⟨v5, M4, h3, h⟩ := am_bE h
  refine am_callL F hNC [.ref (z + 0), .int (xs (a5 + (1 : Int32)).toNatClampNeg), .int (xs (a5 + (2 : Int32)).toNatClampNeg), .ref (z + 186)] cs_L_176 (c_L_arrival l hls D E z (xs (a5 + (1 : Int32)).toNatClampNeg) (xs (a5 + (2 : Int32)).toNatClampNeg) M v5 M4 h3) yn_L_arrival rfl ⟨Nat.le_of_ble_eq_true rfl, Nat.le_of_ble_eq_true rfl⟩ rfl rfl (Nat.le_of_ble_eq_true rfl) ⟨(show cl + 4 ≤ 603072 by omega), (show sl + 24 ≤ 7198826 by omega)⟩ dL_law_819 rfl ?_
  refine am_istore F [(6, .int v5), (0, .ref b), (1, .ref (z + 0)), (2, .ref (z + 174)), (3, .ref (z + 186)), (4, .ref (z + 187)), (5, .int a5)] dL_law_822 (by decide) rfl ?_
  refine am_aload_n F 3 dL_law_824 rfl rfl ?_
  refine am_aload_n F 1 dL_law_825 rfl rfl ?_
  refine am_iload F 6 dL_law_826 rfl ?_
  refine am_iconst F (v := (1 : Int32)) dL_law_828 (by decide) ?_
  refine am_iadd F dL_law_829 ?_
  obtain ⟨q6, h⟩ := am_ciE h
  refine am_sld F hxs hbl hbz q6 dL_law_830 ?_
  refine am_aload_n F 1 dL_law_831 rfl rfl ?_
  refine am_iload F 6 dL_law_832 rfl ?_
  refine am_iconst F (v := (2 : Int32)) dL_law_834 (by decide) ?_
  refine am_iadd F dL_law_835 ?_
  obtain ⟨q7, h⟩ := am_ciE h
  refine am_sld F hxs hbl hbz q7 dL_law_836 ?_
  obtain ⟨v10, M9, h8, h⟩ := am_bE h
  refine am_callVi F [.int (xs (a5 + (1 : Int32)).toNatClampNeg), .int (xs (a5 + (2 : Int32)).toNatClampNeg)] lyk_174 (by decide) rfl cv_L_178 (c_X10_arrival l D E z (xs (a5 + (1 : Int32)).toNatClampNeg) (xs (a5 + (2 : Int32)).toNatClampNeg) M4 v10 M9 h8) yn_X10_arrival rfl ⟨Nat.le_of_ble_eq_true rfl, Nat.le_of_ble_eq_true rfl⟩ rfl rfl (Nat.le_of_ble_eq_true rfl) ⟨(show cl + 4 ≤ 603072 by omega), (show sl + 24 ≤ 7198826 by omega)⟩ dL_law_837 rfl ?_
  refine am_istore F [(7, .int v10), (6, .int v5), (0, .ref b), (1, .ref (z + 0)), (2, .ref (z + 174)), (3, .ref (z + 186)), (4, .ref (z + 187)), (5, .int a5)] dL_law_840 (by decide) rfl ?_
  refine am_aload_n F 4 dL_law_842 rfl rfl ?_
  obtain ⟨v13, M12, h11, h⟩ := am_bE h
  refine am_callVi F [] lyk_174 (by decide) rfl cv_L_148 (c_X10_thrown l D E z  M9 v13 M12 h11) yn_X10_thrown rfl ⟨Nat.le_of_ble_eq_true rfl, Nat.le_of_ble_eq_true rfl⟩ rfl rfl (Nat.le_of_ble_eq_true rfl) ⟨(show cl + 4 ≤ 603072 by omega), (show sl + 24 ≤ 7198826 by omega)⟩ dL_law_843 rfl ?_
  refine am_iload F 1 dL_law_846 rfl ?_
  refine am_icmp_eq F (tgt := 853) dL_law_848 (by decide) (fun c17 => ?_) (fun c17 => ?_)
  · have h := (if_pos c17).symm.trans h
    refine am_iload F 1 dL_law_853 rfl ?_
    refine am_if_ne F (tgt := 870) dL_law_855 (by decide) (fun c16 => ?_) (fun c16 => ?_)
    · have h := (if_neg c16).symm.trans h
      refine am_goto F (tgt := 2501) dL_law_870 (by decide) ?_
      refine am_iinc F [(5, .int (a5 + (5 : Int32))), (7, .int v10), (6, .int v5), (0, .ref b), (1, .ref (z + 0)), (2, .ref (z + 174)), (3, .ref (z + 186)), (4, .ref (z + 187))] 7 dL_law_2501 (by decide) rfl rfl rfl ?_
      refine am_goto F (tgt := 28) dL_law_2504 (by decide) ?_
      exact am_sub (lv' := [(0, .ref b), (1, .ref (z + 0)), (2, .ref (z + 174)), (3, .ref (z + 186)), (4, .ref (z + 187)), (5, .int (a5 + (5 : Int32)))]) [3, 4, 5, 6, 7, 0] rfl (HR (a5 + (5 : Int32)) M12 (cl + 4) (sl + 24) (by omega) (by omega) h)
    · have h := (if_pos c16).symm.trans h
      refine am_aload_n F 5 dL_law_858 rfl rfl ?_
      refine am_iconst F (v := (0 : Int32)) dL_law_859 (by decide) ?_
      obtain ⟨q14, h⟩ := am_ciE h
      refine am_lald F lyk_186 q14 dL_law_860 ?_
      refine am_iload F 0 dL_law_861 rfl ?_
      refine am_i2l F dL_law_863 ?_
      refine am_lcmp F dL_law_864 ?_
      refine am_if_eq F (tgt := 870) dL_law_865 (by decide) (fun c15 => ?_) (fun c15 => ?_)
      · have h := (if_pos c15).symm.trans h
        refine am_goto F (tgt := 2501) dL_law_870 (by decide) ?_
        refine am_iinc F [(5, .int (a5 + (5 : Int32))), (7, .int v10), (6, .int v5), (0, .ref b), (1, .ref (z + 0)), (2, .ref (z + 174)), (3, .ref (z + 186)), (4, .ref (z + 187))] 7 dL_law_2501 (by decide) rfl rfl rfl ?_
        refine am_goto F (tgt := 28) dL_law_2504 (by decide) ?_
        exact am_sub (lv' := [(0, .ref b), (1, .ref (z + 0)), (2, .ref (z + 174)), (3, .ref (z + 186)), (4, .ref (z + 187)), (5, .int (a5 + (5 : Int32)))]) [3, 4, 5, 6, 7, 0] rfl (HR (a5 + (5 : Int32)) M12 (cl + 4) (sl + 24) (by omega) (by omega) h)
      · have h := (if_neg c15).symm.trans h
        cases h
  · have h := (if_neg c17).symm.trans h
    cases h
def g_L_law_J873 (xs : Nat → Int32) (L : Nat) (rc : Int32 → am_M → Option (Unit × am_M)) (a5 : Int32) (M : am_M) : Option (Unit × am_M) := (am_ci (a5 + (1 : Int32)) L (am_ci (a5 + (2 : Int32)) L (am_b (g_L_routeCost (xs (a5 + (1 : Int32)).toNatClampNeg) (xs (a5 + (2 : Int32)).toNatClampNeg) M) (fun v5 M4 => (am_ci (a5 + (1 : Int32)) L (am_ci (a5 + (2 : Int32)) L (am_b (g_X10_routeCost (xs (a5 + (1 : Int32)).toNatClampNeg) (xs (a5 + (2 : Int32)).toNatClampNeg) M4) (fun v10 M9 => (am_b (g_X10_thrown  M9) (fun v13 M12 => (if v13 = v5 then (if v5 = (0 : Int32) then (am_ci (0 : Int32) 1 (if (lg_cmp (am_lg M12 186 (0 : Int32).toNatClampNeg) (v10.toInt64)) = (0 : Int32) then (rc (a5 + (5 : Int32)) M12) else none)) else (rc (a5 + (5 : Int32)) M12)) else none)))))))))))
set_option maxHeartbeats 4000000 in
set_option maxRecDepth 100000 in
theorem cj_L_law_J873 {l : Launch} {p : Program} {e : Env} {s : State} {m : MethodId} {args : Array Value} {below : List Frame} {meth : Method} {c : Code} {Q : State → Prop} {D : va_G} {E : Nat → ClassId} {z b L : Nat} {xs : Nat → Int32} (F : am_F p s m args meth c cL_law 9 RL D E z) (hxs : va_X b L xs s s.heap) (hbl : b < s.heap.size) (hbz : ¬ z ≤ b) (hNC : am_NC s) (hls : l.stackTraces = false) (rc : Int32 → am_M → Option (Unit × am_M)) (a5 : Int32) (M M1 : am_M) (cl sl : Nat) (hc9 : cl + 10 ≤ 603072) (hs9 : sl + 60 ≤ 7198826) (h : g_L_law_J873 xs L rc a5 M = some ((), M1)) (HR : ∀ (b5 : Int32) (M2 : am_M) (cl2 sl2 : Nat), cl2 ≤ cl + 10 → sl2 ≤ sl + 60 → rc b5 M2 = some ((), M1) → am_W p l e room_1 s m args below meth c Q 9 D E z cl2 sl2 M2 28 [(0, .ref b), (1, .ref (z + 0)), (2, .ref (z + 174)), (3, .ref (z + 186)), (4, .ref (z + 187)), (5, .int b5)] []) : am_W p l e room_1 s m args below meth c Q 9 D E z cl sl M 873 [(0, .ref b), (1, .ref (z + 0)), (2, .ref (z + 174)), (3, .ref (z + 186)), (4, .ref (z + 187)), (5, .int a5)] [] := by
  unfold g_L_law_J873 at h
  refine am_aload_n F 1 dL_law_873 rfl rfl ?_
  refine am_aload_n F 0 dL_law_874 rfl rfl ?_
  refine am_iload F 5 dL_law_875 rfl ?_
  refine am_iconst F (v := (1 : Int32)) dL_law_877 (by decide) ?_
  refine am_iadd F dL_law_878 ?_
  obtain ⟨q1, h⟩ := am_ciE h
  refine am_sld F hxs hbl hbz q1 dL_law_879 ?_
  refine am_aload_n F 0 dL_law_880 rfl rfl ?_
  refine am_iload F 5 dL_law_881 rfl ?_
  refine am_iconst F (v := (2 : Int32)) dL_law_883 (by decide) ?_
  refine am_iadd F dL_law_884 ?_
  obtain ⟨q2, h⟩ := am_ciE h
  refine am_sld F hxs hbl hbz q2 dL_law_885 ?_
  refine am_aload_n F 3 dL_law_886 rfl rfl ?_
  obtain ⟨v5, M4, h3, h⟩ := am_bE h
  refine am_callL F hNC [.ref (z + 0), .int (xs (a5 + (1 : Int32)).toNatClampNeg), .int (xs (a5 + (2 : Int32)).toNatClampNeg), .ref (z + 186)] cs_L_179 (c_L_routeCost l hls D E z (xs (a5 + (1 : Int32)).toNatClampNeg) (xs (a5 + (2 : Int32)).toNatClampNeg) M v5 M4 h3) yn_L_routeCost rfl ⟨Nat.le_of_ble_eq_true rfl, Nat.le_of_ble_eq_true rfl⟩ rfl rfl (Nat.le_of_ble_eq_true rfl) ⟨(show cl + 4 ≤ 603072 by omega), (show sl + 24 ≤ 7198826 by omega)⟩ dL_law_887 rfl ?_
  refine am_istore F [(6, .int v5), (0, .ref b), (1, .ref (z + 0)), (2, .ref (z + 174)), (3, .ref (z + 186)), (4, .ref (z + 187)), (5, .int a5)] dL_law_890 (by decide) rfl ?_
  refine am_aload_n F 3 dL_law_892 rfl rfl ?_
  refine am_aload_n F 1 dL_law_893 rfl rfl ?_
  refine am_iload F 6 dL_law_894 rfl ?_
  refine am_iconst F (v := (1 : Int32)) dL_law_896 (by decide) ?_
  refine am_iadd F dL_law_897 ?_
  obtain ⟨q6, h⟩ := am_ciE h
  refine am_sld F hxs hbl hbz q6 dL_law_898 ?_
  refine am_aload_n F 1 dL_law_899 rfl rfl ?_
  refine am_iload F 6 dL_law_900 rfl ?_
  refine am_iconst F (v := (2 : Int32)) dL_law_902 (by decide) ?_
  refine am_iadd F dL_law_903 ?_
  obtain ⟨q7, h⟩ := am_ciE h
  refine am_sld F hxs hbl hbz q7 dL_law_904 ?_
  obtain ⟨v10, M9, h8, h⟩ := am_bE h
  refine am_callVi F [.int (xs (a5 + (1 : Int32)).toNatClampNeg), .int (xs (a5 + (2 : Int32)).toNatClampNeg)] lyk_174 (by decide) rfl cv_L_181 (c_X10_routeCost l D E z (xs (a5 + (1 : Int32)).toNatClampNeg) (xs (a5 + (2 : Int32)).toNatClampNeg) M4 v10 M9 h8) yn_X10_routeCost rfl ⟨Nat.le_of_ble_eq_true rfl, Nat.le_of_ble_eq_true rfl⟩ rfl rfl (Nat.le_of_ble_eq_true rfl) ⟨(show cl + 4 ≤ 603072 by omega), (show sl + 24 ≤ 7198826 by omega)⟩ dL_law_905 rfl ?_
  refine am_istore F [(7, .int v10), (6, .int v5), (0, .ref b), (1, .ref (z + 0)), (2, .ref (z + 174)), (3, .ref (z + 186)), (4, .ref (z + 187)), (5, .int a5)] dL_law_908 (by decide) rfl ?_
  refine am_aload_n F 4 dL_law_910 rfl rfl ?_
  obtain ⟨v13, M12, h11, h⟩ := am_bE h
  refine am_callVi F [] lyk_174 (by decide) rfl cv_L_148 (c_X10_thrown l D E z  M9 v13 M12 h11) yn_X10_thrown rfl ⟨Nat.le_of_ble_eq_true rfl, Nat.le_of_ble_eq_true rfl⟩ rfl rfl (Nat.le_of_ble_eq_true rfl) ⟨(show cl + 4 ≤ 603072 by omega), (show sl + 24 ≤ 7198826 by omega)⟩ dL_law_911 rfl ?_
  refine am_iload F 1 dL_law_914 rfl ?_
  refine am_icmp_eq F (tgt := 921) dL_law_916 (by decide) (fun c17 => ?_) (fun c17 => ?_)
  · have h := (if_pos c17).symm.trans h
    refine am_iload F 1 dL_law_921 rfl ?_
    refine am_if_ne F (tgt := 938) dL_law_923 (by decide) (fun c16 => ?_) (fun c16 => ?_)
    · have h := (if_neg c16).symm.trans h
      refine am_goto F (tgt := 2501) dL_law_938 (by decide) ?_
      refine am_iinc F [(5, .int (a5 + (5 : Int32))), (7, .int v10), (6, .int v5), (0, .ref b), (1, .ref (z + 0)), (2, .ref (z + 174)), (3, .ref (z + 186)), (4, .ref (z + 187))] 7 dL_law_2501 (by decide) rfl rfl rfl ?_
      refine am_goto F (tgt := 28) dL_law_2504 (by decide) ?_
      exact am_sub (lv' := [(0, .ref b), (1, .ref (z + 0)), (2, .ref (z + 174)), (3, .ref (z + 186)), (4, .ref (z + 187)), (5, .int (a5 + (5 : Int32)))]) [3, 4, 5, 6, 7, 0] rfl (HR (a5 + (5 : Int32)) M12 (cl + 4) (sl + 24) (by omega) (by omega) h)
    · have h := (if_pos c16).symm.trans h
      refine am_aload_n F 5 dL_law_926 rfl rfl ?_
      refine am_iconst F (v := (0 : Int32)) dL_law_927 (by decide) ?_
      obtain ⟨q14, h⟩ := am_ciE h
      refine am_lald F lyk_186 q14 dL_law_928 ?_
      refine am_iload F 0 dL_law_929 rfl ?_
      refine am_i2l F dL_law_931 ?_
      refine am_lcmp F dL_law_932 ?_
      refine am_if_eq F (tgt := 938) dL_law_933 (by decide) (fun c15 => ?_) (fun c15 => ?_)
      · have h := (if_pos c15).symm.trans h
        refine am_goto F (tgt := 2501) dL_law_938 (by decide) ?_
        refine am_iinc F [(5, .int (a5 + (5 : Int32))), (7, .int v10), (6, .int v5), (0, .ref b), (1, .ref (z + 0)), (2, .ref (z + 174)), (3, .ref (z + 186)), (4, .ref (z + 187))] 7 dL_law_2501 (by decide) rfl rfl rfl ?_
        refine am_goto F (tgt := 28) dL_law_2504 (by decide) ?_
        exact am_sub (lv' := [(0, .ref b), (1, .ref (z + 0)), (2, .ref (z + 174)), (3, .ref (z + 186)), (4, .ref (z + 187)), (5, .int (a5 + (5 : Int32)))]) [3, 4, 5, 6, 7, 0] rfl (HR (a5 + (5 : Int32)) M12 (cl + 4) (sl + 24) (by omega) (by omega) h)
      · have h := (if_neg c15).symm.trans h
        cases h
  · have h := (if_neg c17).symm.trans h
    cases h
def g_L_law_J941 (xs : Nat → Int32) (L : Nat) (rc : Int32 → am_M → Option (Unit × am_M)) (a5 : Int32) (M : am_M) : Option (Unit × am_M) := (am_ci (a5 + (1 : Int32)) L (am_ci (a5 + (2 : Int32)) L (am_b (g_L_action (xs (a5 + (1 : Int32)).toNatClampNeg) (xs (a5 + (2 : Int32)).toNatClampNeg) M) (fun v5 M4 => (am_ci (a5 + (1 : Int32)) L (am_ci (a5 + (2 : Int32)) L (am_b (g_X10_action (xs (a5 + (1 : Int32)).toNatClampNeg) (xs (a5 + (2 : Int32)).toNatClampNeg) M4) (fun v10 M9 => (am_b (g_X10_thrown  M9) (fun v13 M12 => (if v13 = v5 then (if v5 = (0 : Int32) then (am_ci (0 : Int32) 1 (if (lg_cmp (am_lg M12 186 (0 : Int32).toNatClampNeg) (v10.toInt64)) = (0 : Int32) then (rc (a5 + (5 : Int32)) M12) else none)) else (rc (a5 + (5 : Int32)) M12)) else none)))))))))))
set_option maxHeartbeats 4000000 in
set_option maxRecDepth 100000 in
theorem cj_L_law_J941 {l : Launch} {p : Program} {e : Env} {s : State} {m : MethodId} {args : Array Value} {below : List Frame} {meth : Method} {c : Code} {Q : State → Prop} {D : va_G} {E : Nat → ClassId} {z b L : Nat} {xs : Nat → Int32} (F : am_F p s m args meth c cL_law 9 RL D E z) (hxs : va_X b L xs s s.heap) (hbl : b < s.heap.size) (hbz : ¬ z ≤ b) (hNC : am_NC s) (hls : l.stackTraces = false) (rc : Int32 → am_M → Option (Unit × am_M)) (a5 : Int32) (M M1 : am_M) (cl sl : Nat) (hc9 : cl + 10 ≤ 603072) (hs9 : sl + 60 ≤ 7198826) (h : g_L_law_J941 xs L rc a5 M = some ((), M1)) (HR : ∀ (b5 : Int32) (M2 : am_M) (cl2 sl2 : Nat), cl2 ≤ cl + 10 → sl2 ≤ sl + 60 → rc b5 M2 = some ((), M1) → am_W p l e room_1 s m args below meth c Q 9 D E z cl2 sl2 M2 28 [(0, .ref b), (1, .ref (z + 0)), (2, .ref (z + 174)), (3, .ref (z + 186)), (4, .ref (z + 187)), (5, .int b5)] []) : am_W p l e room_1 s m args below meth c Q 9 D E z cl sl M 941 [(0, .ref b), (1, .ref (z + 0)), (2, .ref (z + 174)), (3, .ref (z + 186)), (4, .ref (z + 187)), (5, .int a5)] [] := by
  unfold g_L_law_J941 at h
  refine am_aload_n F 1 dL_law_941 rfl rfl ?_
  refine am_aload_n F 0 dL_law_942 rfl rfl ?_
  refine am_iload F 5 dL_law_943 rfl ?_
  refine am_iconst F (v := (1 : Int32)) dL_law_945 (by decide) ?_
  refine am_iadd F dL_law_946 ?_
  obtain ⟨q1, h⟩ := am_ciE h
  refine am_sld F hxs hbl hbz q1 dL_law_947 ?_
  refine am_aload_n F 0 dL_law_948 rfl rfl ?_
  refine am_iload F 5 dL_law_949 rfl ?_
  refine am_iconst F (v := (2 : Int32)) dL_law_951 (by decide) ?_
  refine am_iadd F dL_law_952 ?_
  obtain ⟨q2, h⟩ := am_ciE h
  refine am_sld F hxs hbl hbz q2 dL_law_953 ?_
  refine am_aload_n F 3 dL_law_954 rfl rfl ?_
  obtain ⟨v5, M4, h3, h⟩ := am_bE h
  refine am_callL F hNC [.ref (z + 0), .int (xs (a5 + (1 : Int32)).toNatClampNeg), .int (xs (a5 + (2 : Int32)).toNatClampNeg), .ref (z + 186)] cs_L_182 (c_L_action l hls D E z (xs (a5 + (1 : Int32)).toNatClampNeg) (xs (a5 + (2 : Int32)).toNatClampNeg) M v5 M4 h3) yn_L_action rfl ⟨Nat.le_of_ble_eq_true rfl, Nat.le_of_ble_eq_true rfl⟩ rfl rfl (Nat.le_of_ble_eq_true rfl) ⟨(show cl + 2 ≤ 603072 by omega), (show sl + 12 ≤ 7198826 by omega)⟩ dL_law_955 rfl ?_
  refine am_istore F [(6, .int v5), (0, .ref b), (1, .ref (z + 0)), (2, .ref (z + 174)), (3, .ref (z + 186)), (4, .ref (z + 187)), (5, .int a5)] dL_law_958 (by decide) rfl ?_
  refine am_aload_n F 3 dL_law_960 rfl rfl ?_
  refine am_aload_n F 1 dL_law_961 rfl rfl ?_
  refine am_iload F 6 dL_law_962 rfl ?_
  refine am_iconst F (v := (1 : Int32)) dL_law_964 (by decide) ?_
  refine am_iadd F dL_law_965 ?_
  obtain ⟨q6, h⟩ := am_ciE h
  refine am_sld F hxs hbl hbz q6 dL_law_966 ?_
  refine am_aload_n F 1 dL_law_967 rfl rfl ?_
  refine am_iload F 6 dL_law_968 rfl ?_
  refine am_iconst F (v := (2 : Int32)) dL_law_970 (by decide) ?_
  refine am_iadd F dL_law_971 ?_
  obtain ⟨q7, h⟩ := am_ciE h
  refine am_sld F hxs hbl hbz q7 dL_law_972 ?_
  obtain ⟨v10, M9, h8, h⟩ := am_bE h
  refine am_callVi F [.int (xs (a5 + (1 : Int32)).toNatClampNeg), .int (xs (a5 + (2 : Int32)).toNatClampNeg)] lyk_174 (by decide) rfl cv_L_184 (c_X10_action l D E z (xs (a5 + (1 : Int32)).toNatClampNeg) (xs (a5 + (2 : Int32)).toNatClampNeg) M4 v10 M9 h8) yn_X10_action rfl ⟨Nat.le_of_ble_eq_true rfl, Nat.le_of_ble_eq_true rfl⟩ rfl rfl (Nat.le_of_ble_eq_true rfl) ⟨(show cl + 2 ≤ 603072 by omega), (show sl + 12 ≤ 7198826 by omega)⟩ dL_law_973 rfl ?_
  refine am_istore F [(7, .int v10), (6, .int v5), (0, .ref b), (1, .ref (z + 0)), (2, .ref (z + 174)), (3, .ref (z + 186)), (4, .ref (z + 187)), (5, .int a5)] dL_law_976 (by decide) rfl ?_
  refine am_aload_n F 4 dL_law_978 rfl rfl ?_
  obtain ⟨v13, M12, h11, h⟩ := am_bE h
  refine am_callVi F [] lyk_174 (by decide) rfl cv_L_148 (c_X10_thrown l D E z  M9 v13 M12 h11) yn_X10_thrown rfl ⟨Nat.le_of_ble_eq_true rfl, Nat.le_of_ble_eq_true rfl⟩ rfl rfl (Nat.le_of_ble_eq_true rfl) ⟨(show cl + 2 ≤ 603072 by omega), (show sl + 12 ≤ 7198826 by omega)⟩ dL_law_979 rfl ?_
  refine am_iload F 1 dL_law_982 rfl ?_
  refine am_icmp_eq F (tgt := 989) dL_law_984 (by decide) (fun c17 => ?_) (fun c17 => ?_)
  · have h := (if_pos c17).symm.trans h
    refine am_iload F 1 dL_law_989 rfl ?_
    refine am_if_ne F (tgt := 1006) dL_law_991 (by decide) (fun c16 => ?_) (fun c16 => ?_)
    · have h := (if_neg c16).symm.trans h
      refine am_goto F (tgt := 2501) dL_law_1006 (by decide) ?_
      refine am_iinc F [(5, .int (a5 + (5 : Int32))), (7, .int v10), (6, .int v5), (0, .ref b), (1, .ref (z + 0)), (2, .ref (z + 174)), (3, .ref (z + 186)), (4, .ref (z + 187))] 7 dL_law_2501 (by decide) rfl rfl rfl ?_
      refine am_goto F (tgt := 28) dL_law_2504 (by decide) ?_
      exact am_sub (lv' := [(0, .ref b), (1, .ref (z + 0)), (2, .ref (z + 174)), (3, .ref (z + 186)), (4, .ref (z + 187)), (5, .int (a5 + (5 : Int32)))]) [3, 4, 5, 6, 7, 0] rfl (HR (a5 + (5 : Int32)) M12 (cl + 2) (sl + 12) (by omega) (by omega) h)
    · have h := (if_pos c16).symm.trans h
      refine am_aload_n F 5 dL_law_994 rfl rfl ?_
      refine am_iconst F (v := (0 : Int32)) dL_law_995 (by decide) ?_
      obtain ⟨q14, h⟩ := am_ciE h
      refine am_lald F lyk_186 q14 dL_law_996 ?_
      refine am_iload F 0 dL_law_997 rfl ?_
      refine am_i2l F dL_law_999 ?_
      refine am_lcmp F dL_law_1000 ?_
      refine am_if_eq F (tgt := 1006) dL_law_1001 (by decide) (fun c15 => ?_) (fun c15 => ?_)
      · have h := (if_pos c15).symm.trans h
        refine am_goto F (tgt := 2501) dL_law_1006 (by decide) ?_
        refine am_iinc F [(5, .int (a5 + (5 : Int32))), (7, .int v10), (6, .int v5), (0, .ref b), (1, .ref (z + 0)), (2, .ref (z + 174)), (3, .ref (z + 186)), (4, .ref (z + 187))] 7 dL_law_2501 (by decide) rfl rfl rfl ?_
        refine am_goto F (tgt := 28) dL_law_2504 (by decide) ?_
        exact am_sub (lv' := [(0, .ref b), (1, .ref (z + 0)), (2, .ref (z + 174)), (3, .ref (z + 186)), (4, .ref (z + 187)), (5, .int (a5 + (5 : Int32)))]) [3, 4, 5, 6, 7, 0] rfl (HR (a5 + (5 : Int32)) M12 (cl + 2) (sl + 12) (by omega) (by omega) h)
      · have h := (if_neg c15).symm.trans h
        cases h
  · have h := (if_neg c17).symm.trans h
    cases h
def g_L_law_J1009 (xs : Nat → Int32) (L : Nat) (rc : Int32 → am_M → Option (Unit × am_M)) (a5 : Int32) (M : am_M) : Option (Unit × am_M) := (am_ci (a5 + (1 : Int32)) L (am_ci (a5 + (2 : Int32)) L (am_b (g_L_cellAfter (xs (a5 + (1 : Int32)).toNatClampNeg) (xs (a5 + (2 : Int32)).toNatClampNeg) M) (fun v5 M4 => (am_ci (a5 + (1 : Int32)) L (am_ci (a5 + (2 : Int32)) L (am_b (g_X10_cellAfter (xs (a5 + (1 : Int32)).toNatClampNeg) (xs (a5 + (2 : Int32)).toNatClampNeg) M4) (fun v10 M9 => (am_b (g_X10_thrown  M9) (fun v13 M12 => (if v13 = v5 then (if v5 = (0 : Int32) then (am_ci (0 : Int32) 1 (if (lg_cmp (am_lg M12 186 (0 : Int32).toNatClampNeg) (v10.toInt64)) = (0 : Int32) then (rc (a5 + (5 : Int32)) M12) else none)) else (rc (a5 + (5 : Int32)) M12)) else none)))))))))))
set_option maxHeartbeats 4000000 in
set_option maxRecDepth 100000 in
theorem cj_L_law_J1009 {l : Launch} {p : Program} {e : Env} {s : State} {m : MethodId} {args : Array Value} {below : List Frame} {meth : Method} {c : Code} {Q : State → Prop} {D : va_G} {E : Nat → ClassId} {z b L : Nat} {xs : Nat → Int32} (F : am_F p s m args meth c cL_law 9 RL D E z) (hxs : va_X b L xs s s.heap) (hbl : b < s.heap.size) (hbz : ¬ z ≤ b) (hNC : am_NC s) (hls : l.stackTraces = false) (rc : Int32 → am_M → Option (Unit × am_M)) (a5 : Int32) (M M1 : am_M) (cl sl : Nat) (hc9 : cl + 10 ≤ 603072) (hs9 : sl + 60 ≤ 7198826) (h : g_L_law_J1009 xs L rc a5 M = some ((), M1)) (HR : ∀ (b5 : Int32) (M2 : am_M) (cl2 sl2 : Nat), cl2 ≤ cl + 10 → sl2 ≤ sl + 60 → rc b5 M2 = some ((), M1) → am_W p l e room_1 s m args below meth c Q 9 D E z cl2 sl2 M2 28 [(0, .ref b), (1, .ref (z + 0)), (2, .ref (z + 174)), (3, .ref (z + 186)), (4, .ref (z + 187)), (5, .int b5)] []) : am_W p l e room_1 s m args below meth c Q 9 D E z cl sl M 1009 [(0, .ref b), (1, .ref (z + 0)), (2, .ref (z + 174)), (3, .ref (z + 186)), (4, .ref (z + 187)), (5, .int a5)] [] := by
  unfold g_L_law_J1009 at h
  refine am_aload_n F 1 dL_law_1009 rfl rfl ?_
  refine am_aload_n F 0 dL_law_1010 rfl rfl ?_
  refine am_iload F 5 dL_law_1011 rfl ?_
  refine am_iconst F (v := (1 : Int32)) dL_law_1013 (by decide) ?_
  refine am_iadd F dL_law_1014 ?_
  obtain ⟨q1, h⟩ := am_ciE h
  refine am_sld F hxs hbl hbz q1 dL_law_1015 ?_
  refine am_aload_n F 0 dL_law_1016 rfl rfl ?_
  refine am_iload F 5 dL_law_1017 rfl ?_
  refine am_iconst F (v := (2 : Int32)) dL_law_1019 (by decide) ?_
  refine am_iadd F dL_law_1020 ?_
  obtain ⟨q2, h⟩ := am_ciE h
  refine am_sld F hxs hbl hbz q2 dL_law_1021 ?_
  refine am_aload_n F 3 dL_law_1022 rfl rfl ?_
  obtain ⟨v5, M4, h3, h⟩ := am_bE h
  refine am_callL F hNC [.ref (z + 0), .int (xs (a5 + (1 : Int32)).toNatClampNeg), .int (xs (a5 + (2 : Int32)).toNatClampNeg), .ref (z + 186)] cs_L_185 (c_L_cellAfter l hls D E z (xs (a5 + (1 : Int32)).toNatClampNeg) (xs (a5 + (2 : Int32)).toNatClampNeg) M v5 M4 h3) yn_L_cellAfter rfl ⟨Nat.le_of_ble_eq_true rfl, Nat.le_of_ble_eq_true rfl⟩ rfl rfl (Nat.le_of_ble_eq_true rfl) ⟨(show cl + 2 ≤ 603072 by omega), (show sl + 12 ≤ 7198826 by omega)⟩ dL_law_1023 rfl ?_
  refine am_istore F [(6, .int v5), (0, .ref b), (1, .ref (z + 0)), (2, .ref (z + 174)), (3, .ref (z + 186)), (4, .ref (z + 187)), (5, .int a5)] dL_law_1026 (by decide) rfl ?_
  refine am_aload_n F 3 dL_law_1028 rfl rfl ?_
  refine am_aload_n F 1 dL_law_1029 rfl rfl ?_
  refine am_iload F 6 dL_law_1030 rfl ?_
  refine am_iconst F (v := (1 : Int32)) dL_law_1032 (by decide) ?_
  refine am_iadd F dL_law_1033 ?_
  obtain ⟨q6, h⟩ := am_ciE h
  refine am_sld F hxs hbl hbz q6 dL_law_1034 ?_
  refine am_aload_n F 1 dL_law_1035 rfl rfl ?_
  refine am_iload F 6 dL_law_1036 rfl ?_
  refine am_iconst F (v := (2 : Int32)) dL_law_1038 (by decide) ?_
  refine am_iadd F dL_law_1039 ?_
  obtain ⟨q7, h⟩ := am_ciE h
  refine am_sld F hxs hbl hbz q7 dL_law_1040 ?_
  obtain ⟨v10, M9, h8, h⟩ := am_bE h
  refine am_callVi F [.int (xs (a5 + (1 : Int32)).toNatClampNeg), .int (xs (a5 + (2 : Int32)).toNatClampNeg)] lyk_174 (by decide) rfl cv_L_187 (c_X10_cellAfter l D E z (xs (a5 + (1 : Int32)).toNatClampNeg) (xs (a5 + (2 : Int32)).toNatClampNeg) M4 v10 M9 h8) yn_X10_cellAfter rfl ⟨Nat.le_of_ble_eq_true rfl, Nat.le_of_ble_eq_true rfl⟩ rfl rfl (Nat.le_of_ble_eq_true rfl) ⟨(show cl + 2 ≤ 603072 by omega), (show sl + 12 ≤ 7198826 by omega)⟩ dL_law_1041 rfl ?_
  refine am_istore F [(7, .int v10), (6, .int v5), (0, .ref b), (1, .ref (z + 0)), (2, .ref (z + 174)), (3, .ref (z + 186)), (4, .ref (z + 187)), (5, .int a5)] dL_law_1044 (by decide) rfl ?_
  refine am_aload_n F 4 dL_law_1046 rfl rfl ?_
  obtain ⟨v13, M12, h11, h⟩ := am_bE h
  refine am_callVi F [] lyk_174 (by decide) rfl cv_L_148 (c_X10_thrown l D E z  M9 v13 M12 h11) yn_X10_thrown rfl ⟨Nat.le_of_ble_eq_true rfl, Nat.le_of_ble_eq_true rfl⟩ rfl rfl (Nat.le_of_ble_eq_true rfl) ⟨(show cl + 2 ≤ 603072 by omega), (show sl + 12 ≤ 7198826 by omega)⟩ dL_law_1047 rfl ?_
  refine am_iload F 1 dL_law_1050 rfl ?_
  refine am_icmp_eq F (tgt := 1057) dL_law_1052 (by decide) (fun c17 => ?_) (fun c17 => ?_)
  · have h := (if_pos c17).symm.trans h
    refine am_iload F 1 dL_law_1057 rfl ?_
    refine am_if_ne F (tgt := 1074) dL_law_1059 (by decide) (fun c16 => ?_) (fun c16 => ?_)
    · have h := (if_neg c16).symm.trans h
      refine am_goto F (tgt := 2501) dL_law_1074 (by decide) ?_
      refine am_iinc F [(5, .int (a5 + (5 : Int32))), (7, .int v10), (6, .int v5), (0, .ref b), (1, .ref (z + 0)), (2, .ref (z + 174)), (3, .ref (z + 186)), (4, .ref (z + 187))] 7 dL_law_2501 (by decide) rfl rfl rfl ?_
      refine am_goto F (tgt := 28) dL_law_2504 (by decide) ?_
      exact am_sub (lv' := [(0, .ref b), (1, .ref (z + 0)), (2, .ref (z + 174)), (3, .ref (z + 186)), (4, .ref (z + 187)), (5, .int (a5 + (5 : Int32)))]) [3, 4, 5, 6, 7, 0] rfl (HR (a5 + (5 : Int32)) M12 (cl + 2) (sl + 12) (by omega) (by omega) h)
    · have h := (if_pos c16).symm.trans h
      refine am_aload_n F 5 dL_law_1062 rfl rfl ?_
      refine am_iconst F (v := (0 : Int32)) dL_law_1063 (by decide) ?_
      obtain ⟨q14, h⟩ := am_ciE h
      refine am_lald F lyk_186 q14 dL_law_1064 ?_
      refine am_iload F 0 dL_law_1065 rfl ?_
      refine am_i2l F dL_law_1067 ?_
      refine am_lcmp F dL_law_1068 ?_
      refine am_if_eq F (tgt := 1074) dL_law_1069 (by decide) (fun c15 => ?_) (fun c15 => ?_)
      · have h := (if_pos c15).symm.trans h
        refine am_goto F (tgt := 2501) dL_law_1074 (by decide) ?_
        refine am_iinc F [(5, .int (a5 + (5 : Int32))), (7, .int v10), (6, .int v5), (0, .ref b), (1, .ref (z + 0)), (2, .ref (z + 174)), (3, .ref (z + 186)), (4, .ref (z + 187))] 7 dL_law_2501 (by decide) rfl rfl rfl ?_
        refine am_goto F (tgt := 28) dL_law_2504 (by decide) ?_
        exact am_sub (lv' := [(0, .ref b), (1, .ref (z + 0)), (2, .ref (z + 174)), (3, .ref (z + 186)), (4, .ref (z + 187)), (5, .int (a5 + (5 : Int32)))]) [3, 4, 5, 6, 7, 0] rfl (HR (a5 + (5 : Int32)) M12 (cl + 2) (sl + 12) (by omega) (by omega) h)
      · have h := (if_neg c15).symm.trans h
        cases h
  · have h := (if_neg c17).symm.trans h
    cases h
def g_L_law_J1077 (xs : Nat → Int32) (L : Nat) (rc : Int32 → am_M → Option (Unit × am_M)) (a5 : Int32) (M : am_M) : Option (Unit × am_M) := (am_ci (a5 + (1 : Int32)) L (am_ci (a5 + (2 : Int32)) L (am_b (g_L_robotAt (xs (a5 + (1 : Int32)).toNatClampNeg) (xs (a5 + (2 : Int32)).toNatClampNeg) M) (fun v5 M4 => (am_ci (a5 + (1 : Int32)) L (am_ci (a5 + (2 : Int32)) L (am_b (g_X10_robotAt (xs (a5 + (1 : Int32)).toNatClampNeg) (xs (a5 + (2 : Int32)).toNatClampNeg) M4) (fun v10 M9 => (am_b (g_X10_thrown  M9) (fun v13 M12 => (if v13 = v5 then (if v5 = (0 : Int32) then (am_ci (0 : Int32) 1 (if (lg_cmp (am_lg M12 186 (0 : Int32).toNatClampNeg) (v10.toInt64)) = (0 : Int32) then (rc (a5 + (5 : Int32)) M12) else none)) else (rc (a5 + (5 : Int32)) M12)) else none)))))))))))
set_option maxHeartbeats 4000000 in
set_option maxRecDepth 100000 in
theorem cj_L_law_J1077 {l : Launch} {p : Program} {e : Env} {s : State} {m : MethodId} {args : Array Value} {below : List Frame} {meth : Method} {c : Code} {Q : State → Prop} {D : va_G} {E : Nat → ClassId} {z b L : Nat} {xs : Nat → Int32} (F : am_F p s m args meth c cL_law 9 RL D E z) (hxs : va_X b L xs s s.heap) (hbl : b < s.heap.size) (hbz : ¬ z ≤ b) (hNC : am_NC s) (hls : l.stackTraces = false) (rc : Int32 → am_M → Option (Unit × am_M)) (a5 : Int32) (M M1 : am_M) (cl sl : Nat) (hc9 : cl + 10 ≤ 603072) (hs9 : sl + 60 ≤ 7198826) (h : g_L_law_J1077 xs L rc a5 M = some ((), M1)) (HR : ∀ (b5 : Int32) (M2 : am_M) (cl2 sl2 : Nat), cl2 ≤ cl + 10 → sl2 ≤ sl + 60 → rc b5 M2 = some ((), M1) → am_W p l e room_1 s m args below meth c Q 9 D E z cl2 sl2 M2 28 [(0, .ref b), (1, .ref (z + 0)), (2, .ref (z + 174)), (3, .ref (z + 186)), (4, .ref (z + 187)), (5, .int b5)] []) : am_W p l e room_1 s m args below meth c Q 9 D E z cl sl M 1077 [(0, .ref b), (1, .ref (z + 0)), (2, .ref (z + 174)), (3, .ref (z + 186)), (4, .ref (z + 187)), (5, .int a5)] [] := by
  unfold g_L_law_J1077 at h
  refine am_aload_n F 1 dL_law_1077 rfl rfl ?_
  refine am_aload_n F 0 dL_law_1078 rfl rfl ?_
  refine am_iload F 5 dL_law_1079 rfl ?_
  refine am_iconst F (v := (1 : Int32)) dL_law_1081 (by decide) ?_
  refine am_iadd F dL_law_1082 ?_
  obtain ⟨q1, h⟩ := am_ciE h
  refine am_sld F hxs hbl hbz q1 dL_law_1083 ?_
  refine am_aload_n F 0 dL_law_1084 rfl rfl ?_
  refine am_iload F 5 dL_law_1085 rfl ?_
  refine am_iconst F (v := (2 : Int32)) dL_law_1087 (by decide) ?_
  refine am_iadd F dL_law_1088 ?_
  obtain ⟨q2, h⟩ := am_ciE h
  refine am_sld F hxs hbl hbz q2 dL_law_1089 ?_
  refine am_aload_n F 3 dL_law_1090 rfl rfl ?_
  obtain ⟨v5, M4, h3, h⟩ := am_bE h
  refine am_callL F hNC [.ref (z + 0), .int (xs (a5 + (1 : Int32)).toNatClampNeg), .int (xs (a5 + (2 : Int32)).toNatClampNeg), .ref (z + 186)] cs_L_188 (c_L_robotAt l hls D E z (xs (a5 + (1 : Int32)).toNatClampNeg) (xs (a5 + (2 : Int32)).toNatClampNeg) M v5 M4 h3) yn_L_robotAt rfl ⟨Nat.le_of_ble_eq_true rfl, Nat.le_of_ble_eq_true rfl⟩ rfl rfl (Nat.le_of_ble_eq_true rfl) ⟨(show cl + 2 ≤ 603072 by omega), (show sl + 12 ≤ 7198826 by omega)⟩ dL_law_1091 rfl ?_
  refine am_istore F [(6, .int v5), (0, .ref b), (1, .ref (z + 0)), (2, .ref (z + 174)), (3, .ref (z + 186)), (4, .ref (z + 187)), (5, .int a5)] dL_law_1094 (by decide) rfl ?_
  refine am_aload_n F 3 dL_law_1096 rfl rfl ?_
  refine am_aload_n F 1 dL_law_1097 rfl rfl ?_
  refine am_iload F 6 dL_law_1098 rfl ?_
  refine am_iconst F (v := (1 : Int32)) dL_law_1100 (by decide) ?_
  refine am_iadd F dL_law_1101 ?_
  obtain ⟨q6, h⟩ := am_ciE h
  refine am_sld F hxs hbl hbz q6 dL_law_1102 ?_
  refine am_aload_n F 1 dL_law_1103 rfl rfl ?_
  refine am_iload F 6 dL_law_1104 rfl ?_
  refine am_iconst F (v := (2 : Int32)) dL_law_1106 (by decide) ?_
  refine am_iadd F dL_law_1107 ?_
  obtain ⟨q7, h⟩ := am_ciE h
  refine am_sld F hxs hbl hbz q7 dL_law_1108 ?_
  obtain ⟨v10, M9, h8, h⟩ := am_bE h
  refine am_callVi F [.int (xs (a5 + (1 : Int32)).toNatClampNeg), .int (xs (a5 + (2 : Int32)).toNatClampNeg)] lyk_174 (by decide) rfl cv_L_190 (c_X10_robotAt l D E z (xs (a5 + (1 : Int32)).toNatClampNeg) (xs (a5 + (2 : Int32)).toNatClampNeg) M4 v10 M9 h8) yn_X10_robotAt rfl ⟨Nat.le_of_ble_eq_true rfl, Nat.le_of_ble_eq_true rfl⟩ rfl rfl (Nat.le_of_ble_eq_true rfl) ⟨(show cl + 2 ≤ 603072 by omega), (show sl + 12 ≤ 7198826 by omega)⟩ dL_law_1109 rfl ?_
  refine am_istore F [(7, .int v10), (6, .int v5), (0, .ref b), (1, .ref (z + 0)), (2, .ref (z + 174)), (3, .ref (z + 186)), (4, .ref (z + 187)), (5, .int a5)] dL_law_1112 (by decide) rfl ?_
  refine am_aload_n F 4 dL_law_1114 rfl rfl ?_
  obtain ⟨v13, M12, h11, h⟩ := am_bE h
  refine am_callVi F [] lyk_174 (by decide) rfl cv_L_148 (c_X10_thrown l D E z  M9 v13 M12 h11) yn_X10_thrown rfl ⟨Nat.le_of_ble_eq_true rfl, Nat.le_of_ble_eq_true rfl⟩ rfl rfl (Nat.le_of_ble_eq_true rfl) ⟨(show cl + 2 ≤ 603072 by omega), (show sl + 12 ≤ 7198826 by omega)⟩ dL_law_1115 rfl ?_
  refine am_iload F 1 dL_law_1118 rfl ?_
  refine am_icmp_eq F (tgt := 1125) dL_law_1120 (by decide) (fun c17 => ?_) (fun c17 => ?_)
  · have h := (if_pos c17).symm.trans h
    refine am_iload F 1 dL_law_1125 rfl ?_
    refine am_if_ne F (tgt := 1142) dL_law_1127 (by decide) (fun c16 => ?_) (fun c16 => ?_)
    · have h := (if_neg c16).symm.trans h
      refine am_goto F (tgt := 2501) dL_law_1142 (by decide) ?_
      refine am_iinc F [(5, .int (a5 + (5 : Int32))), (7, .int v10), (6, .int v5), (0, .ref b), (1, .ref (z + 0)), (2, .ref (z + 174)), (3, .ref (z + 186)), (4, .ref (z + 187))] 7 dL_law_2501 (by decide) rfl rfl rfl ?_
      refine am_goto F (tgt := 28) dL_law_2504 (by decide) ?_
      exact am_sub (lv' := [(0, .ref b), (1, .ref (z + 0)), (2, .ref (z + 174)), (3, .ref (z + 186)), (4, .ref (z + 187)), (5, .int (a5 + (5 : Int32)))]) [3, 4, 5, 6, 7, 0] rfl (HR (a5 + (5 : Int32)) M12 (cl + 2) (sl + 12) (by omega) (by omega) h)
    · have h := (if_pos c16).symm.trans h
      refine am_aload_n F 5 dL_law_1130 rfl rfl ?_
      refine am_iconst F (v := (0 : Int32)) dL_law_1131 (by decide) ?_
      obtain ⟨q14, h⟩ := am_ciE h
      refine am_lald F lyk_186 q14 dL_law_1132 ?_
      refine am_iload F 0 dL_law_1133 rfl ?_
      refine am_i2l F dL_law_1135 ?_
      refine am_lcmp F dL_law_1136 ?_
      refine am_if_eq F (tgt := 1142) dL_law_1137 (by decide) (fun c15 => ?_) (fun c15 => ?_)
      · have h := (if_pos c15).symm.trans h
        refine am_goto F (tgt := 2501) dL_law_1142 (by decide) ?_
        refine am_iinc F [(5, .int (a5 + (5 : Int32))), (7, .int v10), (6, .int v5), (0, .ref b), (1, .ref (z + 0)), (2, .ref (z + 174)), (3, .ref (z + 186)), (4, .ref (z + 187))] 7 dL_law_2501 (by decide) rfl rfl rfl ?_
        refine am_goto F (tgt := 28) dL_law_2504 (by decide) ?_
        exact am_sub (lv' := [(0, .ref b), (1, .ref (z + 0)), (2, .ref (z + 174)), (3, .ref (z + 186)), (4, .ref (z + 187)), (5, .int (a5 + (5 : Int32)))]) [3, 4, 5, 6, 7, 0] rfl (HR (a5 + (5 : Int32)) M12 (cl + 2) (sl + 12) (by omega) (by omega) h)
      · have h := (if_neg c15).symm.trans h
        cases h
  · have h := (if_neg c17).symm.trans h
    cases h
def g_L_law_J1145 (xs : Nat → Int32) (L : Nat) (rc : Int32 → am_M → Option (Unit × am_M)) (a5 : Int32) (M : am_M) : Option (Unit × am_M) := (am_ci (a5 + (1 : Int32)) L (am_b (g_L_cancel (xs (a5 + (1 : Int32)).toNatClampNeg) M) (fun v4 M3 => (am_ci (a5 + (1 : Int32)) L (am_b (g_X10_cancel (xs (a5 + (1 : Int32)).toNatClampNeg) M3) (fun v8 M7 => (am_b (g_X10_thrown  M7) (fun v11 M10 => (if v11 = v4 then (if v4 = (0 : Int32) then (am_ci (0 : Int32) 1 (if (lg_cmp (am_lg M10 186 (0 : Int32).toNatClampNeg) (v8.toInt64)) = (0 : Int32) then (rc (a5 + (5 : Int32)) M10) else none)) else (rc (a5 + (5 : Int32)) M10)) else none)))))))))
set_option maxHeartbeats 4000000 in
set_option maxRecDepth 100000 in
theorem cj_L_law_J1145 {l : Launch} {p : Program} {e : Env} {s : State} {m : MethodId} {args : Array Value} {below : List Frame} {meth : Method} {c : Code} {Q : State → Prop} {D : va_G} {E : Nat → ClassId} {z b L : Nat} {xs : Nat → Int32} (F : am_F p s m args meth c cL_law 9 RL D E z) (hxs : va_X b L xs s s.heap) (hbl : b < s.heap.size) (hbz : ¬ z ≤ b) (hNC : am_NC s) (hls : l.stackTraces = false) (rc : Int32 → am_M → Option (Unit × am_M)) (a5 : Int32) (M M1 : am_M) (cl sl : Nat) (hc9 : cl + 10 ≤ 603072) (hs9 : sl + 60 ≤ 7198826) (h : g_L_law_J1145 xs L rc a5 M = some ((), M1)) (HR : ∀ (b5 : Int32) (M2 : am_M) (cl2 sl2 : Nat), cl2 ≤ cl + 10 → sl2 ≤ sl + 60 → rc b5 M2 = some ((), M1) → am_W p l e room_1 s m args below meth c Q 9 D E z cl2 sl2 M2 28 [(0, .ref b), (1, .ref (z + 0)), (2, .ref (z + 174)), (3, .ref (z + 186)), (4, .ref (z + 187)), (5, .int b5)] []) : am_W p l e room_1 s m args below meth c Q 9 D E z cl sl M 1145 [(0, .ref b), (1, .ref (z + 0)), (2, .ref (z + 174)), (3, .ref (z + 186)), (4, .ref (z + 187)), (5, .int a5)] [] := by
  unfold g_L_law_J1145 at h
  refine am_aload_n F 1 dL_law_1145 rfl rfl ?_
  refine am_aload_n F 0 dL_law_1146 rfl rfl ?_
  refine am_iload F 5 dL_law_1147 rfl ?_
  refine am_iconst F (v := (1 : Int32)) dL_law_1149 (by decide) ?_
  refine am_iadd F dL_law_1150 ?_
  obtain ⟨q1, h⟩ := am_ciE h
  refine am_sld F hxs hbl hbz q1 dL_law_1151 ?_
  refine am_aload_n F 3 dL_law_1152 rfl rfl ?_
  obtain ⟨v4, M3, h2, h⟩ := am_bE h
  refine am_callL F hNC [.ref (z + 0), .int (xs (a5 + (1 : Int32)).toNatClampNeg), .ref (z + 186)] cs_L_191 (c_L_cancel l hls D E z (xs (a5 + (1 : Int32)).toNatClampNeg) M v4 M3 h2) yn_L_cancel rfl ⟨Nat.le_of_ble_eq_true rfl, Nat.le_of_ble_eq_true rfl⟩ rfl rfl (Nat.le_of_ble_eq_true rfl) ⟨(show cl + 3 ≤ 603072 by omega), (show sl + 18 ≤ 7198826 by omega)⟩ dL_law_1153 rfl ?_
  refine am_istore F [(6, .int v4), (0, .ref b), (1, .ref (z + 0)), (2, .ref (z + 174)), (3, .ref (z + 186)), (4, .ref (z + 187)), (5, .int a5)] dL_law_1156 (by decide) rfl ?_
  refine am_aload_n F 3 dL_law_1158 rfl rfl ?_
  refine am_aload_n F 1 dL_law_1159 rfl rfl ?_
  refine am_iload F 6 dL_law_1160 rfl ?_
  refine am_iconst F (v := (1 : Int32)) dL_law_1162 (by decide) ?_
  refine am_iadd F dL_law_1163 ?_
  obtain ⟨q5, h⟩ := am_ciE h
  refine am_sld F hxs hbl hbz q5 dL_law_1164 ?_
  obtain ⟨v8, M7, h6, h⟩ := am_bE h
  refine am_callVi F [.int (xs (a5 + (1 : Int32)).toNatClampNeg)] lyk_174 (by decide) rfl cv_L_193 (c_X10_cancel l D E z (xs (a5 + (1 : Int32)).toNatClampNeg) M3 v8 M7 h6) yn_X10_cancel rfl ⟨Nat.le_of_ble_eq_true rfl, Nat.le_of_ble_eq_true rfl⟩ rfl rfl (Nat.le_of_ble_eq_true rfl) ⟨(show cl + 3 ≤ 603072 by omega), (show sl + 18 ≤ 7198826 by omega)⟩ dL_law_1165 rfl ?_
  refine am_istore F [(7, .int v8), (6, .int v4), (0, .ref b), (1, .ref (z + 0)), (2, .ref (z + 174)), (3, .ref (z + 186)), (4, .ref (z + 187)), (5, .int a5)] dL_law_1168 (by decide) rfl ?_
  refine am_aload_n F 4 dL_law_1170 rfl rfl ?_
  obtain ⟨v11, M10, h9, h⟩ := am_bE h
  refine am_callVi F [] lyk_174 (by decide) rfl cv_L_148 (c_X10_thrown l D E z  M7 v11 M10 h9) yn_X10_thrown rfl ⟨Nat.le_of_ble_eq_true rfl, Nat.le_of_ble_eq_true rfl⟩ rfl rfl (Nat.le_of_ble_eq_true rfl) ⟨(show cl + 3 ≤ 603072 by omega), (show sl + 18 ≤ 7198826 by omega)⟩ dL_law_1171 rfl ?_
  refine am_iload F 1 dL_law_1174 rfl ?_
  refine am_icmp_eq F (tgt := 1181) dL_law_1176 (by decide) (fun c15 => ?_) (fun c15 => ?_)
  · have h := (if_pos c15).symm.trans h
    refine am_iload F 1 dL_law_1181 rfl ?_
    refine am_if_ne F (tgt := 1198) dL_law_1183 (by decide) (fun c14 => ?_) (fun c14 => ?_)
    · have h := (if_neg c14).symm.trans h
      refine am_goto F (tgt := 2501) dL_law_1198 (by decide) ?_
      refine am_iinc F [(5, .int (a5 + (5 : Int32))), (7, .int v8), (6, .int v4), (0, .ref b), (1, .ref (z + 0)), (2, .ref (z + 174)), (3, .ref (z + 186)), (4, .ref (z + 187))] 7 dL_law_2501 (by decide) rfl rfl rfl ?_
      refine am_goto F (tgt := 28) dL_law_2504 (by decide) ?_
      exact am_sub (lv' := [(0, .ref b), (1, .ref (z + 0)), (2, .ref (z + 174)), (3, .ref (z + 186)), (4, .ref (z + 187)), (5, .int (a5 + (5 : Int32)))]) [3, 4, 5, 6, 7, 0] rfl (HR (a5 + (5 : Int32)) M10 (cl + 3) (sl + 18) (by omega) (by omega) h)
    · have h := (if_pos c14).symm.trans h
      refine am_aload_n F 5 dL_law_1186 rfl rfl ?_
      refine am_iconst F (v := (0 : Int32)) dL_law_1187 (by decide) ?_
      obtain ⟨q12, h⟩ := am_ciE h
      refine am_lald F lyk_186 q12 dL_law_1188 ?_
      refine am_iload F 0 dL_law_1189 rfl ?_
      refine am_i2l F dL_law_1191 ?_
      refine am_lcmp F dL_law_1192 ?_
      refine am_if_eq F (tgt := 1198) dL_law_1193 (by decide) (fun c13 => ?_) (fun c13 => ?_)
      · have h := (if_pos c13).symm.trans h
        refine am_goto F (tgt := 2501) dL_law_1198 (by decide) ?_
        refine am_iinc F [(5, .int (a5 + (5 : Int32))), (7, .int v8), (6, .int v4), (0, .ref b), (1, .ref (z + 0)), (2, .ref (z + 174)), (3, .ref (z + 186)), (4, .ref (z + 187))] 7 dL_law_2501 (by decide) rfl rfl rfl ?_
        refine am_goto F (tgt := 28) dL_law_2504 (by decide) ?_
        exact am_sub (lv' := [(0, .ref b), (1, .ref (z + 0)), (2, .ref (z + 174)), (3, .ref (z + 186)), (4, .ref (z + 187)), (5, .int (a5 + (5 : Int32)))]) [3, 4, 5, 6, 7, 0] rfl (HR (a5 + (5 : Int32)) M10 (cl + 3) (sl + 18) (by omega) (by omega) h)
      · have h := (if_neg c13).symm.trans h
        cases h
  · have h := (if_neg c15).symm.trans h
    cases h
def g_L_law_J1201 (xs : Nat → Int32) (L : Nat) (rc : Int32 → am_M → Option (Unit × am_M)) (a5 : Int32) (M : am_M) : Option (Unit × am_M) := (am_ci (a5 + (1 : Int32)) L (am_ci (a5 + (2 : Int32)) L (am_b (g_L_blockers (xs (a5 + (1 : Int32)).toNatClampNeg) (xs (a5 + (2 : Int32)).toNatClampNeg) M) (fun v5 M4 => (am_ci (a5 + (1 : Int32)) L (am_ci (a5 + (2 : Int32)) L (am_b (g_X10_blockers (xs (a5 + (1 : Int32)).toNatClampNeg) (xs (a5 + (2 : Int32)).toNatClampNeg) M4) (fun v10 M9 => (am_b (g_X10_thrown  M9) (fun v13 M12 => (if v13 = v5 then (if v5 = (0 : Int32) then (am_ci (0 : Int32) 1 (if (lg_cmp (am_lg M12 186 (0 : Int32).toNatClampNeg) (v10.toInt64)) = (0 : Int32) then (rc (a5 + (5 : Int32)) M12) else none)) else (rc (a5 + (5 : Int32)) M12)) else none)))))))))))
set_option maxHeartbeats 4000000 in
set_option maxRecDepth 100000 in
theorem cj_L_law_J1201 {l : Launch} {p : Program} {e : Env} {s : State} {m : MethodId} {args : Array Value} {below : List Frame} {meth : Method} {c : Code} {Q : State → Prop} {D : va_G} {E : Nat → ClassId} {z b L : Nat} {xs : Nat → Int32} (F : am_F p s m args meth c cL_law 9 RL D E z) (hxs : va_X b L xs s s.heap) (hbl : b < s.heap.size) (hbz : ¬ z ≤ b) (hNC : am_NC s) (hls : l.stackTraces = false) (rc : Int32 → am_M → Option (Unit × am_M)) (a5 : Int32) (M M1 : am_M) (cl sl : Nat) (hc9 : cl + 10 ≤ 603072) (hs9 : sl + 60 ≤ 7198826) (h : g_L_law_J1201 xs L rc a5 M = some ((), M1)) (HR : ∀ (b5 : Int32) (M2 : am_M) (cl2 sl2 : Nat), cl2 ≤ cl + 10 → sl2 ≤ sl + 60 → rc b5 M2 = some ((), M1) → am_W p l e room_1 s m args below meth c Q 9 D E z cl2 sl2 M2 28 [(0, .ref b), (1, .ref (z + 0)), (2, .ref (z + 174)), (3, .ref (z + 186)), (4, .ref (z + 187)), (5, .int b5)] []) : am_W p l e room_1 s m args below meth c Q 9 D E z cl sl M 1201 [(0, .ref b), (1, .ref (z + 0)), (2, .ref (z + 174)), (3, .ref (z + 186)), (4, .ref (z + 187)), (5, .int a5)] [] := by
  unfold g_L_law_J1201 at h
  refine am_aload_n F 1 dL_law_1201 rfl rfl ?_
  refine am_aload_n F 0 dL_law_1202 rfl rfl ?_
  refine am_iload F 5 dL_law_1203 rfl ?_
  refine am_iconst F (v := (1 : Int32)) dL_law_1205 (by decide) ?_
  refine am_iadd F dL_law_1206 ?_
  obtain ⟨q1, h⟩ := am_ciE h
  refine am_sld F hxs hbl hbz q1 dL_law_1207 ?_
  refine am_aload_n F 0 dL_law_1208 rfl rfl ?_
  refine am_iload F 5 dL_law_1209 rfl ?_
  refine am_iconst F (v := (2 : Int32)) dL_law_1211 (by decide) ?_
  refine am_iadd F dL_law_1212 ?_
  obtain ⟨q2, h⟩ := am_ciE h
  refine am_sld F hxs hbl hbz q2 dL_law_1213 ?_
  refine am_aload_n F 3 dL_law_1214 rfl rfl ?_
  obtain ⟨v5, M4, h3, h⟩ := am_bE h
  refine am_callL F hNC [.ref (z + 0), .int (xs (a5 + (1 : Int32)).toNatClampNeg), .int (xs (a5 + (2 : Int32)).toNatClampNeg), .ref (z + 186)] cs_L_194 (c_L_blockers l hls D E z (xs (a5 + (1 : Int32)).toNatClampNeg) (xs (a5 + (2 : Int32)).toNatClampNeg) M v5 M4 h3) yn_L_blockers rfl ⟨Nat.le_of_ble_eq_true rfl, Nat.le_of_ble_eq_true rfl⟩ rfl rfl (Nat.le_of_ble_eq_true rfl) ⟨(show cl + 2 ≤ 603072 by omega), (show sl + 12 ≤ 7198826 by omega)⟩ dL_law_1215 rfl ?_
  refine am_istore F [(6, .int v5), (0, .ref b), (1, .ref (z + 0)), (2, .ref (z + 174)), (3, .ref (z + 186)), (4, .ref (z + 187)), (5, .int a5)] dL_law_1218 (by decide) rfl ?_
  refine am_aload_n F 3 dL_law_1220 rfl rfl ?_
  refine am_aload_n F 1 dL_law_1221 rfl rfl ?_
  refine am_iload F 6 dL_law_1222 rfl ?_
  refine am_iconst F (v := (1 : Int32)) dL_law_1224 (by decide) ?_
  refine am_iadd F dL_law_1225 ?_
  obtain ⟨q6, h⟩ := am_ciE h
  refine am_sld F hxs hbl hbz q6 dL_law_1226 ?_
  refine am_aload_n F 1 dL_law_1227 rfl rfl ?_
  refine am_iload F 6 dL_law_1228 rfl ?_
  refine am_iconst F (v := (2 : Int32)) dL_law_1230 (by decide) ?_
  refine am_iadd F dL_law_1231 ?_
  obtain ⟨q7, h⟩ := am_ciE h
  refine am_sld F hxs hbl hbz q7 dL_law_1232 ?_
  obtain ⟨v10, M9, h8, h⟩ := am_bE h
  refine am_callVi F [.int (xs (a5 + (1 : Int32)).toNatClampNeg), .int (xs (a5 + (2 : Int32)).toNatClampNeg)] lyk_174 (by decide) rfl cv_L_196 (c_X10_blockers l D E z (xs (a5 + (1 : Int32)).toNatClampNeg) (xs (a5 + (2 : Int32)).toNatClampNeg) M4 v10 M9 h8) yn_X10_blockers rfl ⟨Nat.le_of_ble_eq_true rfl, Nat.le_of_ble_eq_true rfl⟩ rfl rfl (Nat.le_of_ble_eq_true rfl) ⟨(show cl + 2 ≤ 603072 by omega), (show sl + 12 ≤ 7198826 by omega)⟩ dL_law_1233 rfl ?_
  refine am_istore F [(7, .int v10), (6, .int v5), (0, .ref b), (1, .ref (z + 0)), (2, .ref (z + 174)), (3, .ref (z + 186)), (4, .ref (z + 187)), (5, .int a5)] dL_law_1236 (by decide) rfl ?_
  refine am_aload_n F 4 dL_law_1238 rfl rfl ?_
  obtain ⟨v13, M12, h11, h⟩ := am_bE h
  refine am_callVi F [] lyk_174 (by decide) rfl cv_L_148 (c_X10_thrown l D E z  M9 v13 M12 h11) yn_X10_thrown rfl ⟨Nat.le_of_ble_eq_true rfl, Nat.le_of_ble_eq_true rfl⟩ rfl rfl (Nat.le_of_ble_eq_true rfl) ⟨(show cl + 2 ≤ 603072 by omega), (show sl + 12 ≤ 7198826 by omega)⟩ dL_law_1239 rfl ?_
  refine am_iload F 1 dL_law_1242 rfl ?_
  refine am_icmp_eq F (tgt := 1249) dL_law_1244 (by decide) (fun c17 => ?_) (fun c17 => ?_)
  · have h := (if_pos c17).symm.trans h
    refine am_iload F 1 dL_law_1249 rfl ?_
    refine am_if_ne F (tgt := 1266) dL_law_1251 (by decide) (fun c16 => ?_) (fun c16 => ?_)
    · have h := (if_neg c16).symm.trans h
      refine am_goto F (tgt := 2501) dL_law_1266 (by decide) ?_
      refine am_iinc F [(5, .int (a5 + (5 : Int32))), (7, .int v10), (6, .int v5), (0, .ref b), (1, .ref (z + 0)), (2, .ref (z + 174)), (3, .ref (z + 186)), (4, .ref (z + 187))] 7 dL_law_2501 (by decide) rfl rfl rfl ?_
      refine am_goto F (tgt := 28) dL_law_2504 (by decide) ?_
      exact am_sub (lv' := [(0, .ref b), (1, .ref (z + 0)), (2, .ref (z + 174)), (3, .ref (z + 186)), (4, .ref (z + 187)), (5, .int (a5 + (5 : Int32)))]) [3, 4, 5, 6, 7, 0] rfl (HR (a5 + (5 : Int32)) M12 (cl + 2) (sl + 12) (by omega) (by omega) h)
    · have h := (if_pos c16).symm.trans h
      refine am_aload_n F 5 dL_law_1254 rfl rfl ?_
      refine am_iconst F (v := (0 : Int32)) dL_law_1255 (by decide) ?_
      obtain ⟨q14, h⟩ := am_ciE h
      refine am_lald F lyk_186 q14 dL_law_1256 ?_
      refine am_iload F 0 dL_law_1257 rfl ?_
      refine am_i2l F dL_law_1259 ?_
      refine am_lcmp F dL_law_1260 ?_
      refine am_if_eq F (tgt := 1266) dL_law_1261 (by decide) (fun c15 => ?_) (fun c15 => ?_)
      · have h := (if_pos c15).symm.trans h
        refine am_goto F (tgt := 2501) dL_law_1266 (by decide) ?_
        refine am_iinc F [(5, .int (a5 + (5 : Int32))), (7, .int v10), (6, .int v5), (0, .ref b), (1, .ref (z + 0)), (2, .ref (z + 174)), (3, .ref (z + 186)), (4, .ref (z + 187))] 7 dL_law_2501 (by decide) rfl rfl rfl ?_
        refine am_goto F (tgt := 28) dL_law_2504 (by decide) ?_
        exact am_sub (lv' := [(0, .ref b), (1, .ref (z + 0)), (2, .ref (z + 174)), (3, .ref (z + 186)), (4, .ref (z + 187)), (5, .int (a5 + (5 : Int32)))]) [3, 4, 5, 6, 7, 0] rfl (HR (a5 + (5 : Int32)) M12 (cl + 2) (sl + 12) (by omega) (by omega) h)
      · have h := (if_neg c15).symm.trans h
        cases h
  · have h := (if_neg c17).symm.trans h
    cases h
def g_L_law_J1269 (xs : Nat → Int32) (L : Nat) (rc : Int32 → am_M → Option (Unit × am_M)) (a5 : Int32) (M : am_M) : Option (Unit × am_M) := (am_ci (a5 + (1 : Int32)) L (am_ci (a5 + (2 : Int32)) L (am_b (g_L_makeWay (xs (a5 + (1 : Int32)).toNatClampNeg) (xs (a5 + (2 : Int32)).toNatClampNeg) M) (fun v5 M4 => (am_ci (a5 + (1 : Int32)) L (am_ci (a5 + (2 : Int32)) L (am_b (g_X10_makeWay (xs (a5 + (1 : Int32)).toNatClampNeg) (xs (a5 + (2 : Int32)).toNatClampNeg) M4) (fun v10 M9 => (am_b (g_X10_thrown  M9) (fun v13 M12 => (if v13 = v5 then (if v5 = (0 : Int32) then (am_ci (0 : Int32) 1 (if (lg_cmp (am_lg M12 186 (0 : Int32).toNatClampNeg) (v10.toInt64)) = (0 : Int32) then (rc (a5 + (5 : Int32)) M12) else none)) else (rc (a5 + (5 : Int32)) M12)) else none)))))))))))
set_option maxHeartbeats 4000000 in
set_option maxRecDepth 100000 in
theorem cj_L_law_J1269 {l : Launch} {p : Program} {e : Env} {s : State} {m : MethodId} {args : Array Value} {below : List Frame} {meth : Method} {c : Code} {Q : State → Prop} {D : va_G} {E : Nat → ClassId} {z b L : Nat} {xs : Nat → Int32} (F : am_F p s m args meth c cL_law 9 RL D E z) (hxs : va_X b L xs s s.heap) (hbl : b < s.heap.size) (hbz : ¬ z ≤ b) (hNC : am_NC s) (hls : l.stackTraces = false) (rc : Int32 → am_M → Option (Unit × am_M)) (a5 : Int32) (M M1 : am_M) (cl sl : Nat) (hc9 : cl + 10 ≤ 603072) (hs9 : sl + 60 ≤ 7198826) (h : g_L_law_J1269 xs L rc a5 M = some ((), M1)) (HR : ∀ (b5 : Int32) (M2 : am_M) (cl2 sl2 : Nat), cl2 ≤ cl + 10 → sl2 ≤ sl + 60 → rc b5 M2 = some ((), M1) → am_W p l e room_1 s m args below meth c Q 9 D E z cl2 sl2 M2 28 [(0, .ref b), (1, .ref (z + 0)), (2, .ref (z + 174)), (3, .ref (z + 186)), (4, .ref (z + 187)), (5, .int b5)] []) : am_W p l e room_1 s m args below meth c Q 9 D E z cl sl M 1269 [(0, .ref b), (1, .ref (z + 0)), (2, .ref (z + 174)), (3, .ref (z + 186)), (4, .ref (z + 187)), (5, .int a5)] [] := by
  unfold g_L_law_J1269 at h
  refine am_aload_n F 1 dL_law_1269 rfl rfl ?_
  refine am_aload_n F 0 dL_law_1270 rfl rfl ?_
  refine am_iload F 5 dL_law_1271 rfl ?_
  refine am_iconst F (v := (1 : Int32)) dL_law_1273 (by decide) ?_
  refine am_iadd F dL_law_1274 ?_
  obtain ⟨q1, h⟩ := am_ciE h
  refine am_sld F hxs hbl hbz q1 dL_law_1275 ?_
  refine am_aload_n F 0 dL_law_1276 rfl rfl ?_
  refine am_iload F 5 dL_law_1277 rfl ?_
  refine am_iconst F (v := (2 : Int32)) dL_law_1279 (by decide) ?_
  refine am_iadd F dL_law_1280 ?_
  obtain ⟨q2, h⟩ := am_ciE h
  refine am_sld F hxs hbl hbz q2 dL_law_1281 ?_
  refine am_aload_n F 3 dL_law_1282 rfl rfl ?_
  obtain ⟨v5, M4, h3, h⟩ := am_bE h
  refine am_callL F hNC [.ref (z + 0), .int (xs (a5 + (1 : Int32)).toNatClampNeg), .int (xs (a5 + (2 : Int32)).toNatClampNeg), .ref (z + 186)] cs_L_197 (c_L_makeWay l hls D E z (xs (a5 + (1 : Int32)).toNatClampNeg) (xs (a5 + (2 : Int32)).toNatClampNeg) M v5 M4 h3) yn_L_makeWay rfl ⟨Nat.le_of_ble_eq_true rfl, Nat.le_of_ble_eq_true rfl⟩ rfl rfl (Nat.le_of_ble_eq_true rfl) ⟨(show cl + 4 ≤ 603072 by omega), (show sl + 24 ≤ 7198826 by omega)⟩ dL_law_1283 rfl ?_
  refine am_istore F [(6, .int v5), (0, .ref b), (1, .ref (z + 0)), (2, .ref (z + 174)), (3, .ref (z + 186)), (4, .ref (z + 187)), (5, .int a5)] dL_law_1286 (by decide) rfl ?_
  refine am_aload_n F 3 dL_law_1288 rfl rfl ?_
  refine am_aload_n F 1 dL_law_1289 rfl rfl ?_
  refine am_iload F 6 dL_law_1290 rfl ?_
  refine am_iconst F (v := (1 : Int32)) dL_law_1292 (by decide) ?_
  refine am_iadd F dL_law_1293 ?_
  obtain ⟨q6, h⟩ := am_ciE h
  refine am_sld F hxs hbl hbz q6 dL_law_1294 ?_
  refine am_aload_n F 1 dL_law_1295 rfl rfl ?_
  refine am_iload F 6 dL_law_1296 rfl ?_
  refine am_iconst F (v := (2 : Int32)) dL_law_1298 (by decide) ?_
  refine am_iadd F dL_law_1299 ?_
  obtain ⟨q7, h⟩ := am_ciE h
  refine am_sld F hxs hbl hbz q7 dL_law_1300 ?_
  obtain ⟨v10, M9, h8, h⟩ := am_bE h
  refine am_callVi F [.int (xs (a5 + (1 : Int32)).toNatClampNeg), .int (xs (a5 + (2 : Int32)).toNatClampNeg)] lyk_174 (by decide) rfl cv_L_199 (c_X10_makeWay l D E z (xs (a5 + (1 : Int32)).toNatClampNeg) (xs (a5 + (2 : Int32)).toNatClampNeg) M4 v10 M9 h8) yn_X10_makeWay rfl ⟨Nat.le_of_ble_eq_true rfl, Nat.le_of_ble_eq_true rfl⟩ rfl rfl (Nat.le_of_ble_eq_true rfl) ⟨(show cl + 4 ≤ 603072 by omega), (show sl + 24 ≤ 7198826 by omega)⟩ dL_law_1301 rfl ?_
  refine am_istore F [(7, .int v10), (6, .int v5), (0, .ref b), (1, .ref (z + 0)), (2, .ref (z + 174)), (3, .ref (z + 186)), (4, .ref (z + 187)), (5, .int a5)] dL_law_1304 (by decide) rfl ?_
  refine am_aload_n F 4 dL_law_1306 rfl rfl ?_
  obtain ⟨v13, M12, h11, h⟩ := am_bE h
  refine am_callVi F [] lyk_174 (by decide) rfl cv_L_148 (c_X10_thrown l D E z  M9 v13 M12 h11) yn_X10_thrown rfl ⟨Nat.le_of_ble_eq_true rfl, Nat.le_of_ble_eq_true rfl⟩ rfl rfl (Nat.le_of_ble_eq_true rfl) ⟨(show cl + 4 ≤ 603072 by omega), (show sl + 24 ≤ 7198826 by omega)⟩ dL_law_1307 rfl ?_
  refine am_iload F 1 dL_law_1310 rfl ?_
  refine am_icmp_eq F (tgt := 1317) dL_law_1312 (by decide) (fun c17 => ?_) (fun c17 => ?_)
  · have h := (if_pos c17).symm.trans h
    refine am_iload F 1 dL_law_1317 rfl ?_
    refine am_if_ne F (tgt := 1334) dL_law_1319 (by decide) (fun c16 => ?_) (fun c16 => ?_)
    · have h := (if_neg c16).symm.trans h
      refine am_goto F (tgt := 2501) dL_law_1334 (by decide) ?_
      refine am_iinc F [(5, .int (a5 + (5 : Int32))), (7, .int v10), (6, .int v5), (0, .ref b), (1, .ref (z + 0)), (2, .ref (z + 174)), (3, .ref (z + 186)), (4, .ref (z + 187))] 7 dL_law_2501 (by decide) rfl rfl rfl ?_
      refine am_goto F (tgt := 28) dL_law_2504 (by decide) ?_
      exact am_sub (lv' := [(0, .ref b), (1, .ref (z + 0)), (2, .ref (z + 174)), (3, .ref (z + 186)), (4, .ref (z + 187)), (5, .int (a5 + (5 : Int32)))]) [3, 4, 5, 6, 7, 0] rfl (HR (a5 + (5 : Int32)) M12 (cl + 4) (sl + 24) (by omega) (by omega) h)
    · have h := (if_pos c16).symm.trans h
      refine am_aload_n F 5 dL_law_1322 rfl rfl ?_
      refine am_iconst F (v := (0 : Int32)) dL_law_1323 (by decide) ?_
      obtain ⟨q14, h⟩ := am_ciE h
      refine am_lald F lyk_186 q14 dL_law_1324 ?_
      refine am_iload F 0 dL_law_1325 rfl ?_
      refine am_i2l F dL_law_1327 ?_
      refine am_lcmp F dL_law_1328 ?_
      refine am_if_eq F (tgt := 1334) dL_law_1329 (by decide) (fun c15 => ?_) (fun c15 => ?_)
      · have h := (if_pos c15).symm.trans h
        refine am_goto F (tgt := 2501) dL_law_1334 (by decide) ?_
        refine am_iinc F [(5, .int (a5 + (5 : Int32))), (7, .int v10), (6, .int v5), (0, .ref b), (1, .ref (z + 0)), (2, .ref (z + 174)), (3, .ref (z + 186)), (4, .ref (z + 187))] 7 dL_law_2501 (by decide) rfl rfl rfl ?_
        refine am_goto F (tgt := 28) dL_law_2504 (by decide) ?_
        exact am_sub (lv' := [(0, .ref b), (1, .ref (z + 0)), (2, .ref (z + 174)), (3, .ref (z + 186)), (4, .ref (z + 187)), (5, .int (a5 + (5 : Int32)))]) [3, 4, 5, 6, 7, 0] rfl (HR (a5 + (5 : Int32)) M12 (cl + 4) (sl + 24) (by omega) (by omega) h)
      · have h := (if_neg c15).symm.trans h
        cases h
  · have h := (if_neg c17).symm.trans h
    cases h
def g_L_law_J1337 (xs : Nat → Int32) (L : Nat) (rc : Int32 → am_M → Option (Unit × am_M)) (a5 : Int32) (M : am_M) : Option (Unit × am_M) := (am_ci (a5 + (1 : Int32)) L (am_b (g_L_planToCharger (xs (a5 + (1 : Int32)).toNatClampNeg) M) (fun v4 M3 => (am_ci (a5 + (1 : Int32)) L (am_b (g_X10_planToCharger (xs (a5 + (1 : Int32)).toNatClampNeg) M3) (fun v8 M7 => (am_b (g_X10_thrown  M7) (fun v11 M10 => (if v11 = v4 then (if v4 = (0 : Int32) then (am_ci (0 : Int32) 1 (if (lg_cmp (am_lg M10 186 (0 : Int32).toNatClampNeg) (v8.toInt64)) = (0 : Int32) then (rc (a5 + (5 : Int32)) M10) else none)) else (rc (a5 + (5 : Int32)) M10)) else none)))))))))
set_option maxHeartbeats 4000000 in
set_option maxRecDepth 100000 in
theorem cj_L_law_J1337 {l : Launch} {p : Program} {e : Env} {s : State} {m : MethodId} {args : Array Value} {below : List Frame} {meth : Method} {c : Code} {Q : State → Prop} {D : va_G} {E : Nat → ClassId} {z b L : Nat} {xs : Nat → Int32} (F : am_F p s m args meth c cL_law 9 RL D E z) (hxs : va_X b L xs s s.heap) (hbl : b < s.heap.size) (hbz : ¬ z ≤ b) (hNC : am_NC s) (hls : l.stackTraces = false) (rc : Int32 → am_M → Option (Unit × am_M)) (a5 : Int32) (M M1 : am_M) (cl sl : Nat) (hc9 : cl + 10 ≤ 603072) (hs9 : sl + 60 ≤ 7198826) (h : g_L_law_J1337 xs L rc a5 M = some ((), M1)) (HR : ∀ (b5 : Int32) (M2 : am_M) (cl2 sl2 : Nat), cl2 ≤ cl + 10 → sl2 ≤ sl + 60 → rc b5 M2 = some ((), M1) → am_W p l e room_1 s m args below meth c Q 9 D E z cl2 sl2 M2 28 [(0, .ref b), (1, .ref (z + 0)), (2, .ref (z + 174)), (3, .ref (z + 186)), (4, .ref (z + 187)), (5, .int b5)] []) : am_W p l e room_1 s m args below meth c Q 9 D E z cl sl M 1337 [(0, .ref b), (1, .ref (z + 0)), (2, .ref (z + 174)), (3, .ref (z + 186)), (4, .ref (z + 187)), (5, .int a5)] [] := by
  unfold g_L_law_J1337 at h
  refine am_aload_n F 1 dL_law_1337 rfl rfl ?_
  refine am_aload_n F 0 dL_law_1338 rfl rfl ?_
  refine am_iload F 5 dL_law_1339 rfl ?_
  refine am_iconst F (v := (1 : Int32)) dL_law_1341 (by decide) ?_
  refine am_iadd F dL_law_1342 ?_
  obtain ⟨q1, h⟩ := am_ciE h
  refine am_sld F hxs hbl hbz q1 dL_law_1343 ?_
  refine am_aload_n F 3 dL_law_1344 rfl rfl ?_
  obtain ⟨v4, M3, h2, h⟩ := am_bE h
  refine am_callL F hNC [.ref (z + 0), .int (xs (a5 + (1 : Int32)).toNatClampNeg), .ref (z + 186)] cs_L_200 (c_L_planToCharger l hls D E z (xs (a5 + (1 : Int32)).toNatClampNeg) M v4 M3 h2) yn_L_planToCharger rfl ⟨Nat.le_of_ble_eq_true rfl, Nat.le_of_ble_eq_true rfl⟩ rfl rfl (Nat.le_of_ble_eq_true rfl) ⟨(show cl + 3 ≤ 603072 by omega), (show sl + 18 ≤ 7198826 by omega)⟩ dL_law_1345 rfl ?_
  refine am_istore F [(6, .int v4), (0, .ref b), (1, .ref (z + 0)), (2, .ref (z + 174)), (3, .ref (z + 186)), (4, .ref (z + 187)), (5, .int a5)] dL_law_1348 (by decide) rfl ?_
  refine am_aload_n F 3 dL_law_1350 rfl rfl ?_
  refine am_aload_n F 1 dL_law_1351 rfl rfl ?_
  refine am_iload F 6 dL_law_1352 rfl ?_
  refine am_iconst F (v := (1 : Int32)) dL_law_1354 (by decide) ?_
  refine am_iadd F dL_law_1355 ?_
  obtain ⟨q5, h⟩ := am_ciE h
  refine am_sld F hxs hbl hbz q5 dL_law_1356 ?_
  obtain ⟨v8, M7, h6, h⟩ := am_bE h
  refine am_callVi F [.int (xs (a5 + (1 : Int32)).toNatClampNeg)] lyk_174 (by decide) rfl cv_L_202 (c_X10_planToCharger l D E z (xs (a5 + (1 : Int32)).toNatClampNeg) M3 v8 M7 h6) yn_X10_planToCharger rfl ⟨Nat.le_of_ble_eq_true rfl, Nat.le_of_ble_eq_true rfl⟩ rfl rfl (Nat.le_of_ble_eq_true rfl) ⟨(show cl + 3 ≤ 603072 by omega), (show sl + 18 ≤ 7198826 by omega)⟩ dL_law_1357 rfl ?_
  refine am_istore F [(7, .int v8), (6, .int v4), (0, .ref b), (1, .ref (z + 0)), (2, .ref (z + 174)), (3, .ref (z + 186)), (4, .ref (z + 187)), (5, .int a5)] dL_law_1360 (by decide) rfl ?_
  refine am_aload_n F 4 dL_law_1362 rfl rfl ?_
  obtain ⟨v11, M10, h9, h⟩ := am_bE h
  refine am_callVi F [] lyk_174 (by decide) rfl cv_L_148 (c_X10_thrown l D E z  M7 v11 M10 h9) yn_X10_thrown rfl ⟨Nat.le_of_ble_eq_true rfl, Nat.le_of_ble_eq_true rfl⟩ rfl rfl (Nat.le_of_ble_eq_true rfl) ⟨(show cl + 3 ≤ 603072 by omega), (show sl + 18 ≤ 7198826 by omega)⟩ dL_law_1363 rfl ?_
  refine am_iload F 1 dL_law_1366 rfl ?_
  refine am_icmp_eq F (tgt := 1373) dL_law_1368 (by decide) (fun c15 => ?_) (fun c15 => ?_)
  · have h := (if_pos c15).symm.trans h
    refine am_iload F 1 dL_law_1373 rfl ?_
    refine am_if_ne F (tgt := 1390) dL_law_1375 (by decide) (fun c14 => ?_) (fun c14 => ?_)
    · have h := (if_neg c14).symm.trans h
      refine am_goto F (tgt := 2501) dL_law_1390 (by decide) ?_
      refine am_iinc F [(5, .int (a5 + (5 : Int32))), (7, .int v8), (6, .int v4), (0, .ref b), (1, .ref (z + 0)), (2, .ref (z + 174)), (3, .ref (z + 186)), (4, .ref (z + 187))] 7 dL_law_2501 (by decide) rfl rfl rfl ?_
      refine am_goto F (tgt := 28) dL_law_2504 (by decide) ?_
      exact am_sub (lv' := [(0, .ref b), (1, .ref (z + 0)), (2, .ref (z + 174)), (3, .ref (z + 186)), (4, .ref (z + 187)), (5, .int (a5 + (5 : Int32)))]) [3, 4, 5, 6, 7, 0] rfl (HR (a5 + (5 : Int32)) M10 (cl + 3) (sl + 18) (by omega) (by omega) h)
    · have h := (if_pos c14).symm.trans h
      refine am_aload_n F 5 dL_law_1378 rfl rfl ?_
      refine am_iconst F (v := (0 : Int32)) dL_law_1379 (by decide) ?_
      obtain ⟨q12, h⟩ := am_ciE h
      refine am_lald F lyk_186 q12 dL_law_1380 ?_
      refine am_iload F 0 dL_law_1381 rfl ?_
      refine am_i2l F dL_law_1383 ?_
      refine am_lcmp F dL_law_1384 ?_
      refine am_if_eq F (tgt := 1390) dL_law_1385 (by decide) (fun c13 => ?_) (fun c13 => ?_)
      · have h := (if_pos c13).symm.trans h
        refine am_goto F (tgt := 2501) dL_law_1390 (by decide) ?_
        refine am_iinc F [(5, .int (a5 + (5 : Int32))), (7, .int v8), (6, .int v4), (0, .ref b), (1, .ref (z + 0)), (2, .ref (z + 174)), (3, .ref (z + 186)), (4, .ref (z + 187))] 7 dL_law_2501 (by decide) rfl rfl rfl ?_
        refine am_goto F (tgt := 28) dL_law_2504 (by decide) ?_
        exact am_sub (lv' := [(0, .ref b), (1, .ref (z + 0)), (2, .ref (z + 174)), (3, .ref (z + 186)), (4, .ref (z + 187)), (5, .int (a5 + (5 : Int32)))]) [3, 4, 5, 6, 7, 0] rfl (HR (a5 + (5 : Int32)) M10 (cl + 3) (sl + 18) (by omega) (by omega) h)
      · have h := (if_neg c13).symm.trans h
        cases h
  · have h := (if_neg c15).symm.trans h
    cases h
def g_L_law_J1393 (xs : Nat → Int32) (L : Nat) (rc : Int32 → am_M → Option (Unit × am_M)) (a5 : Int32) (M : am_M) : Option (Unit × am_M) := (am_ci (a5 + (1 : Int32)) L (am_ci (a5 + (2 : Int32)) L (am_ci (a5 + (3 : Int32)) L (am_ci (a5 + (4 : Int32)) L (am_b (g_L_addTask (xs (a5 + (1 : Int32)).toNatClampNeg) (xs (a5 + (2 : Int32)).toNatClampNeg) (xs (a5 + (3 : Int32)).toNatClampNeg) (xs (a5 + (4 : Int32)).toNatClampNeg) M) (fun v7 M6 => (am_ci (a5 + (1 : Int32)) L (am_ci (a5 + (2 : Int32)) L (am_ci (a5 + (3 : Int32)) L (am_ci (a5 + (4 : Int32)) L (am_b (g_X10_addTask (xs (a5 + (1 : Int32)).toNatClampNeg) (xs (a5 + (2 : Int32)).toNatClampNeg) (xs (a5 + (3 : Int32)).toNatClampNeg) (xs (a5 + (4 : Int32)).toNatClampNeg) M6) (fun v14 M13 => (am_b (g_X10_thrown  M13) (fun v17 M16 => (if v17 = v7 then (if v7 = (0 : Int32) then (am_ci (0 : Int32) 1 (if (lg_cmp (am_lg M16 186 (0 : Int32).toNatClampNeg) (v14.toInt64)) = (0 : Int32) then (rc (a5 + (5 : Int32)) M16) else none)) else (rc (a5 + (5 : Int32)) M16)) else none)))))))))))))))
set_option maxHeartbeats 4000000 in
set_option maxRecDepth 100000 in
theorem cj_L_law_J1393 {l : Launch} {p : Program} {e : Env} {s : State} {m : MethodId} {args : Array Value} {below : List Frame} {meth : Method} {c : Code} {Q : State → Prop} {D : va_G} {E : Nat → ClassId} {z b L : Nat} {xs : Nat → Int32} (F : am_F p s m args meth c cL_law 9 RL D E z) (hxs : va_X b L xs s s.heap) (hbl : b < s.heap.size) (hbz : ¬ z ≤ b) (hNC : am_NC s) (hls : l.stackTraces = false) (rc : Int32 → am_M → Option (Unit × am_M)) (a5 : Int32) (M M1 : am_M) (cl sl : Nat) (hc9 : cl + 10 ≤ 603072) (hs9 : sl + 60 ≤ 7198826) (h : g_L_law_J1393 xs L rc a5 M = some ((), M1)) (HR : ∀ (b5 : Int32) (M2 : am_M) (cl2 sl2 : Nat), cl2 ≤ cl + 10 → sl2 ≤ sl + 60 → rc b5 M2 = some ((), M1) → am_W p l e room_1 s m args below meth c Q 9 D E z cl2 sl2 M2 28 [(0, .ref b), (1, .ref (z + 0)), (2, .ref (z + 174)), (3, .ref (z + 186)), (4, .ref (z + 187)), (5, .int b5)] []) : am_W p l e room_1 s m args below meth c Q 9 D E z cl sl M 1393 [(0, .ref b), (1, .ref (z + 0)), (2, .ref (z + 174)), (3, .ref (z + 186)), (4, .ref (z + 187)), (5, .int a5)] [] := by
  unfold g_L_law_J1393 at h
  refine am_aload_n F 1 dL_law_1393 rfl rfl ?_
  refine am_aload_n F 0 dL_law_1394 rfl rfl ?_
  refine am_iload F 5 dL_law_1395 rfl ?_
  refine am_iconst F (v := (1 : Int32)) dL_law_1397 (by decide) ?_
  refine am_iadd F dL_law_1398 ?_
  obtain ⟨q1, h⟩ := am_ciE h
  refine am_sld F hxs hbl hbz q1 dL_law_1399 ?_
  refine am_aload_n F 0 dL_law_1400 rfl rfl ?_
  refine am_iload F 5 dL_law_1401 rfl ?_
  refine am_iconst F (v := (2 : Int32)) dL_law_1403 (by decide) ?_
  refine am_iadd F dL_law_1404 ?_
  obtain ⟨q2, h⟩ := am_ciE h
  refine am_sld F hxs hbl hbz q2 dL_law_1405 ?_
  refine am_aload_n F 0 dL_law_1406 rfl rfl ?_
  refine am_iload F 5 dL_law_1407 rfl ?_
  refine am_iconst F (v := (3 : Int32)) dL_law_1409 (by decide) ?_
  refine am_iadd F dL_law_1410 ?_
  obtain ⟨q3, h⟩ := am_ciE h
  refine am_sld F hxs hbl hbz q3 dL_law_1411 ?_
  refine am_aload_n F 0 dL_law_1412 rfl rfl ?_
  refine am_iload F 5 dL_law_1413 rfl ?_
  refine am_iconst F (v := (4 : Int32)) dL_law_1415 (by decide) ?_
  refine am_iadd F dL_law_1416 ?_
  obtain ⟨q4, h⟩ := am_ciE h
  refine am_sld F hxs hbl hbz q4 dL_law_1417 ?_
  refine am_aload_n F 3 dL_law_1418 rfl rfl ?_
  obtain ⟨v7, M6, h5, h⟩ := am_bE h
  refine am_callL F hNC [.ref (z + 0), .int (xs (a5 + (1 : Int32)).toNatClampNeg), .int (xs (a5 + (2 : Int32)).toNatClampNeg), .int (xs (a5 + (3 : Int32)).toNatClampNeg), .int (xs (a5 + (4 : Int32)).toNatClampNeg), .ref (z + 186)] cs_L_203 (c_L_addTask l hls D E z (xs (a5 + (1 : Int32)).toNatClampNeg) (xs (a5 + (2 : Int32)).toNatClampNeg) (xs (a5 + (3 : Int32)).toNatClampNeg) (xs (a5 + (4 : Int32)).toNatClampNeg) M v7 M6 h5) yn_L_addTask rfl ⟨Nat.le_of_ble_eq_true rfl, Nat.le_of_ble_eq_true rfl⟩ rfl rfl (Nat.le_of_ble_eq_true rfl) ⟨(show cl + 3 ≤ 603072 by omega), (show sl + 18 ≤ 7198826 by omega)⟩ dL_law_1419 rfl ?_
  refine am_istore F [(6, .int v7), (0, .ref b), (1, .ref (z + 0)), (2, .ref (z + 174)), (3, .ref (z + 186)), (4, .ref (z + 187)), (5, .int a5)] dL_law_1422 (by decide) rfl ?_
  refine am_aload_n F 3 dL_law_1424 rfl rfl ?_
  refine am_aload_n F 1 dL_law_1425 rfl rfl ?_
  refine am_iload F 6 dL_law_1426 rfl ?_
  refine am_iconst F (v := (1 : Int32)) dL_law_1428 (by decide) ?_
  refine am_iadd F dL_law_1429 ?_
  obtain ⟨q8, h⟩ := am_ciE h
  refine am_sld F hxs hbl hbz q8 dL_law_1430 ?_
  refine am_aload_n F 1 dL_law_1431 rfl rfl ?_
  refine am_iload F 6 dL_law_1432 rfl ?_
  refine am_iconst F (v := (2 : Int32)) dL_law_1434 (by decide) ?_
  refine am_iadd F dL_law_1435 ?_
  obtain ⟨q9, h⟩ := am_ciE h
  refine am_sld F hxs hbl hbz q9 dL_law_1436 ?_
  refine am_aload_n F 1 dL_law_1437 rfl rfl ?_
  refine am_iload F 6 dL_law_1438 rfl ?_
  refine am_iconst F (v := (3 : Int32)) dL_law_1440 (by decide) ?_
  refine am_iadd F dL_law_1441 ?_
  obtain ⟨q10, h⟩ := am_ciE h
  refine am_sld F hxs hbl hbz q10 dL_law_1442 ?_
  refine am_aload_n F 1 dL_law_1443 rfl rfl ?_
  refine am_iload F 6 dL_law_1444 rfl ?_
  refine am_iconst F (v := (4 : Int32)) dL_law_1446 (by decide) ?_
  refine am_iadd F dL_law_1447 ?_
  obtain ⟨q11, h⟩ := am_ciE h
  refine am_sld F hxs hbl hbz q11 dL_law_1448 ?_
  obtain ⟨v14, M13, h12, h⟩ := am_bE h
  refine am_callVi F [.int (xs (a5 + (1 : Int32)).toNatClampNeg), .int (xs (a5 + (2 : Int32)).toNatClampNeg), .int (xs (a5 + (3 : Int32)).toNatClampNeg), .int (xs (a5 + (4 : Int32)).toNatClampNeg)] lyk_174 (by decide) rfl cv_L_206 (c_X10_addTask l D E z (xs (a5 + (1 : Int32)).toNatClampNeg) (xs (a5 + (2 : Int32)).toNatClampNeg) (xs (a5 + (3 : Int32)).toNatClampNeg) (xs (a5 + (4 : Int32)).toNatClampNeg) M6 v14 M13 h12) yn_X10_addTask rfl ⟨Nat.le_of_ble_eq_true rfl, Nat.le_of_ble_eq_true rfl⟩ rfl rfl (Nat.le_of_ble_eq_true rfl) ⟨(show cl + 3 ≤ 603072 by omega), (show sl + 18 ≤ 7198826 by omega)⟩ dL_law_1449 rfl ?_
  refine am_istore F [(7, .int v14), (6, .int v7), (0, .ref b), (1, .ref (z + 0)), (2, .ref (z + 174)), (3, .ref (z + 186)), (4, .ref (z + 187)), (5, .int a5)] dL_law_1452 (by decide) rfl ?_
  refine am_aload_n F 4 dL_law_1454 rfl rfl ?_
  obtain ⟨v17, M16, h15, h⟩ := am_bE h
  refine am_callVi F [] lyk_174 (by decide) rfl cv_L_148 (c_X10_thrown l D E z  M13 v17 M16 h15) yn_X10_thrown rfl ⟨Nat.le_of_ble_eq_true rfl, Nat.le_of_ble_eq_true rfl⟩ rfl rfl (Nat.le_of_ble_eq_true rfl) ⟨(show cl + 3 ≤ 603072 by omega), (show sl + 18 ≤ 7198826 by omega)⟩ dL_law_1455 rfl ?_
  refine am_iload F 1 dL_law_1458 rfl ?_
  refine am_icmp_eq F (tgt := 1465) dL_law_1460 (by decide) (fun c21 => ?_) (fun c21 => ?_)
  · have h := (if_pos c21).symm.trans h
    refine am_iload F 1 dL_law_1465 rfl ?_
    refine am_if_ne F (tgt := 1482) dL_law_1467 (by decide) (fun c20 => ?_) (fun c20 => ?_)
    · have h := (if_neg c20).symm.trans h
      refine am_goto F (tgt := 2501) dL_law_1482 (by decide) ?_
      refine am_iinc F [(5, .int (a5 + (5 : Int32))), (7, .int v14), (6, .int v7), (0, .ref b), (1, .ref (z + 0)), (2, .ref (z + 174)), (3, .ref (z + 186)), (4, .ref (z + 187))] 7 dL_law_2501 (by decide) rfl rfl rfl ?_
      refine am_goto F (tgt := 28) dL_law_2504 (by decide) ?_
      exact am_sub (lv' := [(0, .ref b), (1, .ref (z + 0)), (2, .ref (z + 174)), (3, .ref (z + 186)), (4, .ref (z + 187)), (5, .int (a5 + (5 : Int32)))]) [3, 4, 5, 6, 7, 0] rfl (HR (a5 + (5 : Int32)) M16 (cl + 3) (sl + 18) (by omega) (by omega) h)
    · have h := (if_pos c20).symm.trans h
      refine am_aload_n F 5 dL_law_1470 rfl rfl ?_
      refine am_iconst F (v := (0 : Int32)) dL_law_1471 (by decide) ?_
      obtain ⟨q18, h⟩ := am_ciE h
      refine am_lald F lyk_186 q18 dL_law_1472 ?_
      refine am_iload F 0 dL_law_1473 rfl ?_
      refine am_i2l F dL_law_1475 ?_
      refine am_lcmp F dL_law_1476 ?_
      refine am_if_eq F (tgt := 1482) dL_law_1477 (by decide) (fun c19 => ?_) (fun c19 => ?_)
      · have h := (if_pos c19).symm.trans h
        refine am_goto F (tgt := 2501) dL_law_1482 (by decide) ?_
        refine am_iinc F [(5, .int (a5 + (5 : Int32))), (7, .int v14), (6, .int v7), (0, .ref b), (1, .ref (z + 0)), (2, .ref (z + 174)), (3, .ref (z + 186)), (4, .ref (z + 187))] 7 dL_law_2501 (by decide) rfl rfl rfl ?_
        refine am_goto F (tgt := 28) dL_law_2504 (by decide) ?_
        exact am_sub (lv' := [(0, .ref b), (1, .ref (z + 0)), (2, .ref (z + 174)), (3, .ref (z + 186)), (4, .ref (z + 187)), (5, .int (a5 + (5 : Int32)))]) [3, 4, 5, 6, 7, 0] rfl (HR (a5 + (5 : Int32)) M16 (cl + 3) (sl + 18) (by omega) (by omega) h)
      · have h := (if_neg c19).symm.trans h
        cases h
  · have h := (if_neg c21).symm.trans h
    cases h
def g_L_law_J1485 (xs : Nat → Int32) (L : Nat) (rc : Int32 → am_M → Option (Unit × am_M)) (a5 : Int32) (M : am_M) : Option (Unit × am_M) := (am_ci (a5 + (1 : Int32)) L (am_ci (a5 + (2 : Int32)) L (am_b (g_L_serve (xs (a5 + (1 : Int32)).toNatClampNeg) (xs (a5 + (2 : Int32)).toNatClampNeg) M) (fun v5 M4 => (am_ci (a5 + (1 : Int32)) L (am_ci (a5 + (2 : Int32)) L (am_b (g_X10_serve (xs (a5 + (1 : Int32)).toNatClampNeg) (xs (a5 + (2 : Int32)).toNatClampNeg) M4) (fun v10 M9 => (am_b (g_X10_thrown  M9) (fun v13 M12 => (if v13 = v5 then (if v5 = (0 : Int32) then (am_ci (0 : Int32) 1 (if (lg_cmp (am_lg M12 186 (0 : Int32).toNatClampNeg) (v10.toInt64)) = (0 : Int32) then (rc (a5 + (5 : Int32)) M12) else none)) else (rc (a5 + (5 : Int32)) M12)) else none)))))))))))
set_option maxHeartbeats 4000000 in
set_option maxRecDepth 100000 in
theorem cj_L_law_J1485 {l : Launch} {p : Program} {e : Env} {s : State} {m : MethodId} {args : Array Value} {below : List Frame} {meth : Method} {c : Code} {Q : State → Prop} {D : va_G} {E : Nat → ClassId} {z b L : Nat} {xs : Nat → Int32} (F : am_F p s m args meth c cL_law 9 RL D E z) (hxs : va_X b L xs s s.heap) (hbl : b < s.heap.size) (hbz : ¬ z ≤ b) (hNC : am_NC s) (hls : l.stackTraces = false) (rc : Int32 → am_M → Option (Unit × am_M)) (a5 : Int32) (M M1 : am_M) (cl sl : Nat) (hc9 : cl + 10 ≤ 603072) (hs9 : sl + 60 ≤ 7198826) (h : g_L_law_J1485 xs L rc a5 M = some ((), M1)) (HR : ∀ (b5 : Int32) (M2 : am_M) (cl2 sl2 : Nat), cl2 ≤ cl + 10 → sl2 ≤ sl + 60 → rc b5 M2 = some ((), M1) → am_W p l e room_1 s m args below meth c Q 9 D E z cl2 sl2 M2 28 [(0, .ref b), (1, .ref (z + 0)), (2, .ref (z + 174)), (3, .ref (z + 186)), (4, .ref (z + 187)), (5, .int b5)] []) : am_W p l e room_1 s m args below meth c Q 9 D E z cl sl M 1485 [(0, .ref b), (1, .ref (z + 0)), (2, .ref (z + 174)), (3, .ref (z + 186)), (4, .ref (z + 187)), (5, .int a5)] [] := by
  unfold g_L_law_J1485 at h
  refine am_aload_n F 1 dL_law_1485 rfl rfl ?_
  refine am_aload_n F 0 dL_law_1486 rfl rfl ?_
  refine am_iload F 5 dL_law_1487 rfl ?_
  refine am_iconst F (v := (1 : Int32)) dL_law_1489 (by decide) ?_
  refine am_iadd F dL_law_1490 ?_
  obtain ⟨q1, h⟩ := am_ciE h
  refine am_sld F hxs hbl hbz q1 dL_law_1491 ?_
  refine am_aload_n F 0 dL_law_1492 rfl rfl ?_
  refine am_iload F 5 dL_law_1493 rfl ?_
  refine am_iconst F (v := (2 : Int32)) dL_law_1495 (by decide) ?_
  refine am_iadd F dL_law_1496 ?_
  obtain ⟨q2, h⟩ := am_ciE h
  refine am_sld F hxs hbl hbz q2 dL_law_1497 ?_
  refine am_aload_n F 3 dL_law_1498 rfl rfl ?_
  obtain ⟨v5, M4, h3, h⟩ := am_bE h
  refine am_callL F hNC [.ref (z + 0), .int (xs (a5 + (1 : Int32)).toNatClampNeg), .int (xs (a5 + (2 : Int32)).toNatClampNeg), .ref (z + 186)] cs_L_207 (c_L_serve l hls D E z (xs (a5 + (1 : Int32)).toNatClampNeg) (xs (a5 + (2 : Int32)).toNatClampNeg) M v5 M4 h3) yn_L_serve rfl ⟨Nat.le_of_ble_eq_true rfl, Nat.le_of_ble_eq_true rfl⟩ rfl rfl (Nat.le_of_ble_eq_true rfl) ⟨(show cl + 3 ≤ 603072 by omega), (show sl + 18 ≤ 7198826 by omega)⟩ dL_law_1499 rfl ?_
  refine am_istore F [(6, .int v5), (0, .ref b), (1, .ref (z + 0)), (2, .ref (z + 174)), (3, .ref (z + 186)), (4, .ref (z + 187)), (5, .int a5)] dL_law_1502 (by decide) rfl ?_
  refine am_aload_n F 3 dL_law_1504 rfl rfl ?_
  refine am_aload_n F 1 dL_law_1505 rfl rfl ?_
  refine am_iload F 6 dL_law_1506 rfl ?_
  refine am_iconst F (v := (1 : Int32)) dL_law_1508 (by decide) ?_
  refine am_iadd F dL_law_1509 ?_
  obtain ⟨q6, h⟩ := am_ciE h
  refine am_sld F hxs hbl hbz q6 dL_law_1510 ?_
  refine am_aload_n F 1 dL_law_1511 rfl rfl ?_
  refine am_iload F 6 dL_law_1512 rfl ?_
  refine am_iconst F (v := (2 : Int32)) dL_law_1514 (by decide) ?_
  refine am_iadd F dL_law_1515 ?_
  obtain ⟨q7, h⟩ := am_ciE h
  refine am_sld F hxs hbl hbz q7 dL_law_1516 ?_
  obtain ⟨v10, M9, h8, h⟩ := am_bE h
  refine am_callVi F [.int (xs (a5 + (1 : Int32)).toNatClampNeg), .int (xs (a5 + (2 : Int32)).toNatClampNeg)] lyk_174 (by decide) rfl cv_L_209 (c_X10_serve l D E z (xs (a5 + (1 : Int32)).toNatClampNeg) (xs (a5 + (2 : Int32)).toNatClampNeg) M4 v10 M9 h8) yn_X10_serve rfl ⟨Nat.le_of_ble_eq_true rfl, Nat.le_of_ble_eq_true rfl⟩ rfl rfl (Nat.le_of_ble_eq_true rfl) ⟨(show cl + 3 ≤ 603072 by omega), (show sl + 18 ≤ 7198826 by omega)⟩ dL_law_1517 rfl ?_
  refine am_istore F [(7, .int v10), (6, .int v5), (0, .ref b), (1, .ref (z + 0)), (2, .ref (z + 174)), (3, .ref (z + 186)), (4, .ref (z + 187)), (5, .int a5)] dL_law_1520 (by decide) rfl ?_
  refine am_aload_n F 4 dL_law_1522 rfl rfl ?_
  obtain ⟨v13, M12, h11, h⟩ := am_bE h
  refine am_callVi F [] lyk_174 (by decide) rfl cv_L_148 (c_X10_thrown l D E z  M9 v13 M12 h11) yn_X10_thrown rfl ⟨Nat.le_of_ble_eq_true rfl, Nat.le_of_ble_eq_true rfl⟩ rfl rfl (Nat.le_of_ble_eq_true rfl) ⟨(show cl + 3 ≤ 603072 by omega), (show sl + 18 ≤ 7198826 by omega)⟩ dL_law_1523 rfl ?_
  refine am_iload F 1 dL_law_1526 rfl ?_
  refine am_icmp_eq F (tgt := 1533) dL_law_1528 (by decide) (fun c17 => ?_) (fun c17 => ?_)
  · have h := (if_pos c17).symm.trans h
    refine am_iload F 1 dL_law_1533 rfl ?_
    refine am_if_ne F (tgt := 1550) dL_law_1535 (by decide) (fun c16 => ?_) (fun c16 => ?_)
    · have h := (if_neg c16).symm.trans h
      refine am_goto F (tgt := 2501) dL_law_1550 (by decide) ?_
      refine am_iinc F [(5, .int (a5 + (5 : Int32))), (7, .int v10), (6, .int v5), (0, .ref b), (1, .ref (z + 0)), (2, .ref (z + 174)), (3, .ref (z + 186)), (4, .ref (z + 187))] 7 dL_law_2501 (by decide) rfl rfl rfl ?_
      refine am_goto F (tgt := 28) dL_law_2504 (by decide) ?_
      exact am_sub (lv' := [(0, .ref b), (1, .ref (z + 0)), (2, .ref (z + 174)), (3, .ref (z + 186)), (4, .ref (z + 187)), (5, .int (a5 + (5 : Int32)))]) [3, 4, 5, 6, 7, 0] rfl (HR (a5 + (5 : Int32)) M12 (cl + 3) (sl + 18) (by omega) (by omega) h)
    · have h := (if_pos c16).symm.trans h
      refine am_aload_n F 5 dL_law_1538 rfl rfl ?_
      refine am_iconst F (v := (0 : Int32)) dL_law_1539 (by decide) ?_
      obtain ⟨q14, h⟩ := am_ciE h
      refine am_lald F lyk_186 q14 dL_law_1540 ?_
      refine am_iload F 0 dL_law_1541 rfl ?_
      refine am_i2l F dL_law_1543 ?_
      refine am_lcmp F dL_law_1544 ?_
      refine am_if_eq F (tgt := 1550) dL_law_1545 (by decide) (fun c15 => ?_) (fun c15 => ?_)
      · have h := (if_pos c15).symm.trans h
        refine am_goto F (tgt := 2501) dL_law_1550 (by decide) ?_
        refine am_iinc F [(5, .int (a5 + (5 : Int32))), (7, .int v10), (6, .int v5), (0, .ref b), (1, .ref (z + 0)), (2, .ref (z + 174)), (3, .ref (z + 186)), (4, .ref (z + 187))] 7 dL_law_2501 (by decide) rfl rfl rfl ?_
        refine am_goto F (tgt := 28) dL_law_2504 (by decide) ?_
        exact am_sub (lv' := [(0, .ref b), (1, .ref (z + 0)), (2, .ref (z + 174)), (3, .ref (z + 186)), (4, .ref (z + 187)), (5, .int (a5 + (5 : Int32)))]) [3, 4, 5, 6, 7, 0] rfl (HR (a5 + (5 : Int32)) M12 (cl + 3) (sl + 18) (by omega) (by omega) h)
      · have h := (if_neg c15).symm.trans h
        cases h
  · have h := (if_neg c17).symm.trans h
    cases h
def g_L_law_J1553 (xs : Nat → Int32) (L : Nat) (rc : Int32 → am_M → Option (Unit × am_M)) (a5 : Int32) (M : am_M) : Option (Unit × am_M) := (am_ci (a5 + (1 : Int32)) L (am_b (g_L_bestRobot (xs (a5 + (1 : Int32)).toNatClampNeg) M) (fun v4 M3 => (am_ci (a5 + (1 : Int32)) L (am_b (g_X10_bestRobot (xs (a5 + (1 : Int32)).toNatClampNeg) M3) (fun v8 M7 => (am_b (g_X10_thrown  M7) (fun v11 M10 => (if v11 = v4 then (if v4 = (0 : Int32) then (am_ci (0 : Int32) 1 (if (lg_cmp (am_lg M10 186 (0 : Int32).toNatClampNeg) (v8.toInt64)) = (0 : Int32) then (rc (a5 + (5 : Int32)) M10) else none)) else (rc (a5 + (5 : Int32)) M10)) else none)))))))))
set_option maxHeartbeats 4000000 in
set_option maxRecDepth 100000 in
theorem cj_L_law_J1553 {l : Launch} {p : Program} {e : Env} {s : State} {m : MethodId} {args : Array Value} {below : List Frame} {meth : Method} {c : Code} {Q : State → Prop} {D : va_G} {E : Nat → ClassId} {z b L : Nat} {xs : Nat → Int32} (F : am_F p s m args meth c cL_law 9 RL D E z) (hxs : va_X b L xs s s.heap) (hbl : b < s.heap.size) (hbz : ¬ z ≤ b) (hNC : am_NC s) (hls : l.stackTraces = false) (rc : Int32 → am_M → Option (Unit × am_M)) (a5 : Int32) (M M1 : am_M) (cl sl : Nat) (hc9 : cl + 10 ≤ 603072) (hs9 : sl + 60 ≤ 7198826) (h : g_L_law_J1553 xs L rc a5 M = some ((), M1)) (HR : ∀ (b5 : Int32) (M2 : am_M) (cl2 sl2 : Nat), cl2 ≤ cl + 10 → sl2 ≤ sl + 60 → rc b5 M2 = some ((), M1) → am_W p l e room_1 s m args below meth c Q 9 D E z cl2 sl2 M2 28 [(0, .ref b), (1, .ref (z + 0)), (2, .ref (z + 174)), (3, .ref (z + 186)), (4, .ref (z + 187)), (5, .int b5)] []) : am_W p l e room_1 s m args below meth c Q 9 D E z cl sl M 1553 [(0, .ref b), (1, .ref (z + 0)), (2, .ref (z + 174)), (3, .ref (z + 186)), (4, .ref (z + 187)), (5, .int a5)] [] := by
  unfold g_L_law_J1553 at h
  refine am_aload_n F 1 dL_law_1553 rfl rfl ?_
  refine am_aload_n F 0 dL_law_1554 rfl rfl ?_
  refine am_iload F 5 dL_law_1555 rfl ?_
  refine am_iconst F (v := (1 : Int32)) dL_law_1557 (by decide) ?_
  refine am_iadd F dL_law_1558 ?_
  obtain ⟨q1, h⟩ := am_ciE h
  refine am_sld F hxs hbl hbz q1 dL_law_1559 ?_
  refine am_aload_n F 3 dL_law_1560 rfl rfl ?_
  obtain ⟨v4, M3, h2, h⟩ := am_bE h
  refine am_callL F hNC [.ref (z + 0), .int (xs (a5 + (1 : Int32)).toNatClampNeg), .ref (z + 186)] cs_L_210 (c_L_bestRobot l hls D E z (xs (a5 + (1 : Int32)).toNatClampNeg) M v4 M3 h2) yn_L_bestRobot rfl ⟨Nat.le_of_ble_eq_true rfl, Nat.le_of_ble_eq_true rfl⟩ rfl rfl (Nat.le_of_ble_eq_true rfl) ⟨(show cl + 3 ≤ 603072 by omega), (show sl + 18 ≤ 7198826 by omega)⟩ dL_law_1561 rfl ?_
  refine am_istore F [(6, .int v4), (0, .ref b), (1, .ref (z + 0)), (2, .ref (z + 174)), (3, .ref (z + 186)), (4, .ref (z + 187)), (5, .int a5)] dL_law_1564 (by decide) rfl ?_
  refine am_aload_n F 3 dL_law_1566 rfl rfl ?_
  refine am_aload_n F 1 dL_law_1567 rfl rfl ?_
  refine am_iload F 6 dL_law_1568 rfl ?_
  refine am_iconst F (v := (1 : Int32)) dL_law_1570 (by decide) ?_
  refine am_iadd F dL_law_1571 ?_
  obtain ⟨q5, h⟩ := am_ciE h
  refine am_sld F hxs hbl hbz q5 dL_law_1572 ?_
  obtain ⟨v8, M7, h6, h⟩ := am_bE h
  refine am_callVi F [.int (xs (a5 + (1 : Int32)).toNatClampNeg)] lyk_174 (by decide) rfl cv_L_212 (c_X10_bestRobot l D E z (xs (a5 + (1 : Int32)).toNatClampNeg) M3 v8 M7 h6) yn_X10_bestRobot rfl ⟨Nat.le_of_ble_eq_true rfl, Nat.le_of_ble_eq_true rfl⟩ rfl rfl (Nat.le_of_ble_eq_true rfl) ⟨(show cl + 3 ≤ 603072 by omega), (show sl + 18 ≤ 7198826 by omega)⟩ dL_law_1573 rfl ?_
  refine am_istore F [(7, .int v8), (6, .int v4), (0, .ref b), (1, .ref (z + 0)), (2, .ref (z + 174)), (3, .ref (z + 186)), (4, .ref (z + 187)), (5, .int a5)] dL_law_1576 (by decide) rfl ?_
  refine am_aload_n F 4 dL_law_1578 rfl rfl ?_
  obtain ⟨v11, M10, h9, h⟩ := am_bE h
  refine am_callVi F [] lyk_174 (by decide) rfl cv_L_148 (c_X10_thrown l D E z  M7 v11 M10 h9) yn_X10_thrown rfl ⟨Nat.le_of_ble_eq_true rfl, Nat.le_of_ble_eq_true rfl⟩ rfl rfl (Nat.le_of_ble_eq_true rfl) ⟨(show cl + 3 ≤ 603072 by omega), (show sl + 18 ≤ 7198826 by omega)⟩ dL_law_1579 rfl ?_
  refine am_iload F 1 dL_law_1582 rfl ?_
  refine am_icmp_eq F (tgt := 1589) dL_law_1584 (by decide) (fun c15 => ?_) (fun c15 => ?_)
  · have h := (if_pos c15).symm.trans h
    refine am_iload F 1 dL_law_1589 rfl ?_
    refine am_if_ne F (tgt := 1606) dL_law_1591 (by decide) (fun c14 => ?_) (fun c14 => ?_)
    · have h := (if_neg c14).symm.trans h
      refine am_goto F (tgt := 2501) dL_law_1606 (by decide) ?_
      refine am_iinc F [(5, .int (a5 + (5 : Int32))), (7, .int v8), (6, .int v4), (0, .ref b), (1, .ref (z + 0)), (2, .ref (z + 174)), (3, .ref (z + 186)), (4, .ref (z + 187))] 7 dL_law_2501 (by decide) rfl rfl rfl ?_
      refine am_goto F (tgt := 28) dL_law_2504 (by decide) ?_
      exact am_sub (lv' := [(0, .ref b), (1, .ref (z + 0)), (2, .ref (z + 174)), (3, .ref (z + 186)), (4, .ref (z + 187)), (5, .int (a5 + (5 : Int32)))]) [3, 4, 5, 6, 7, 0] rfl (HR (a5 + (5 : Int32)) M10 (cl + 3) (sl + 18) (by omega) (by omega) h)
    · have h := (if_pos c14).symm.trans h
      refine am_aload_n F 5 dL_law_1594 rfl rfl ?_
      refine am_iconst F (v := (0 : Int32)) dL_law_1595 (by decide) ?_
      obtain ⟨q12, h⟩ := am_ciE h
      refine am_lald F lyk_186 q12 dL_law_1596 ?_
      refine am_iload F 0 dL_law_1597 rfl ?_
      refine am_i2l F dL_law_1599 ?_
      refine am_lcmp F dL_law_1600 ?_
      refine am_if_eq F (tgt := 1606) dL_law_1601 (by decide) (fun c13 => ?_) (fun c13 => ?_)
      · have h := (if_pos c13).symm.trans h
        refine am_goto F (tgt := 2501) dL_law_1606 (by decide) ?_
        refine am_iinc F [(5, .int (a5 + (5 : Int32))), (7, .int v8), (6, .int v4), (0, .ref b), (1, .ref (z + 0)), (2, .ref (z + 174)), (3, .ref (z + 186)), (4, .ref (z + 187))] 7 dL_law_2501 (by decide) rfl rfl rfl ?_
        refine am_goto F (tgt := 28) dL_law_2504 (by decide) ?_
        exact am_sub (lv' := [(0, .ref b), (1, .ref (z + 0)), (2, .ref (z + 174)), (3, .ref (z + 186)), (4, .ref (z + 187)), (5, .int (a5 + (5 : Int32)))]) [3, 4, 5, 6, 7, 0] rfl (HR (a5 + (5 : Int32)) M10 (cl + 3) (sl + 18) (by omega) (by omega) h)
      · have h := (if_neg c13).symm.trans h
        cases h
  · have h := (if_neg c15).symm.trans h
    cases h
def g_L_law_J1609 (xs : Nat → Int32) (L : Nat) (rc : Int32 → am_M → Option (Unit × am_M)) (a5 : Int32) (M : am_M) : Option (Unit × am_M) := (am_ci (a5 + (1 : Int32)) L (am_ci (a5 + (2 : Int32)) L (am_b (g_L_task (xs (a5 + (1 : Int32)).toNatClampNeg) (xs (a5 + (2 : Int32)).toNatClampNeg) M) (fun v5 M4 => (am_ci (a5 + (1 : Int32)) L (am_ci (a5 + (2 : Int32)) L (am_b (g_X10_task (xs (a5 + (1 : Int32)).toNatClampNeg) (xs (a5 + (2 : Int32)).toNatClampNeg) M4) (fun v10 M9 => (am_b (g_X10_thrown  M9) (fun v13 M12 => (if v13 = v5 then (if v5 = (0 : Int32) then (am_ci (0 : Int32) 1 (if (lg_cmp (am_lg M12 186 (0 : Int32).toNatClampNeg) (v10.toInt64)) = (0 : Int32) then (rc (a5 + (5 : Int32)) M12) else none)) else (rc (a5 + (5 : Int32)) M12)) else none)))))))))))
set_option maxHeartbeats 4000000 in
set_option maxRecDepth 100000 in
theorem cj_L_law_J1609 {l : Launch} {p : Program} {e : Env} {s : State} {m : MethodId} {args : Array Value} {below : List Frame} {meth : Method} {c : Code} {Q : State → Prop} {D : va_G} {E : Nat → ClassId} {z b L : Nat} {xs : Nat → Int32} (F : am_F p s m args meth c cL_law 9 RL D E z) (hxs : va_X b L xs s s.heap) (hbl : b < s.heap.size) (hbz : ¬ z ≤ b) (hNC : am_NC s) (hls : l.stackTraces = false) (rc : Int32 → am_M → Option (Unit × am_M)) (a5 : Int32) (M M1 : am_M) (cl sl : Nat) (hc9 : cl + 10 ≤ 603072) (hs9 : sl + 60 ≤ 7198826) (h : g_L_law_J1609 xs L rc a5 M = some ((), M1)) (HR : ∀ (b5 : Int32) (M2 : am_M) (cl2 sl2 : Nat), cl2 ≤ cl + 10 → sl2 ≤ sl + 60 → rc b5 M2 = some ((), M1) → am_W p l e room_1 s m args below meth c Q 9 D E z cl2 sl2 M2 28 [(0, .ref b), (1, .ref (z + 0)), (2, .ref (z + 174)), (3, .ref (z + 186)), (4, .ref (z + 187)), (5, .int b5)] []) : am_W p l e room_1 s m args below meth c Q 9 D E z cl sl M 1609 [(0, .ref b), (1, .ref (z + 0)), (2, .ref (z + 174)), (3, .ref (z + 186)), (4, .ref (z + 187)), (5, .int a5)] [] := by
  unfold g_L_law_J1609 at h
  refine am_aload_n F 1 dL_law_1609 rfl rfl ?_
  refine am_aload_n F 0 dL_law_1610 rfl rfl ?_
  refine am_iload F 5 dL_law_1611 rfl ?_
  refine am_iconst F (v := (1 : Int32)) dL_law_1613 (by decide) ?_
  refine am_iadd F dL_law_1614 ?_
  obtain ⟨q1, h⟩ := am_ciE h
  refine am_sld F hxs hbl hbz q1 dL_law_1615 ?_
  refine am_aload_n F 0 dL_law_1616 rfl rfl ?_
  refine am_iload F 5 dL_law_1617 rfl ?_
  refine am_iconst F (v := (2 : Int32)) dL_law_1619 (by decide) ?_
  refine am_iadd F dL_law_1620 ?_
  obtain ⟨q2, h⟩ := am_ciE h
  refine am_sld F hxs hbl hbz q2 dL_law_1621 ?_
  refine am_aload_n F 3 dL_law_1622 rfl rfl ?_
  obtain ⟨v5, M4, h3, h⟩ := am_bE h
  refine am_callL F hNC [.ref (z + 0), .int (xs (a5 + (1 : Int32)).toNatClampNeg), .int (xs (a5 + (2 : Int32)).toNatClampNeg), .ref (z + 186)] cs_L_213 (c_L_task l hls D E z (xs (a5 + (1 : Int32)).toNatClampNeg) (xs (a5 + (2 : Int32)).toNatClampNeg) M v5 M4 h3) yn_L_task rfl ⟨Nat.le_of_ble_eq_true rfl, Nat.le_of_ble_eq_true rfl⟩ rfl rfl (Nat.le_of_ble_eq_true rfl) ⟨(show cl + 2 ≤ 603072 by omega), (show sl + 12 ≤ 7198826 by omega)⟩ dL_law_1623 rfl ?_
  refine am_istore F [(6, .int v5), (0, .ref b), (1, .ref (z + 0)), (2, .ref (z + 174)), (3, .ref (z + 186)), (4, .ref (z + 187)), (5, .int a5)] dL_law_1626 (by decide) rfl ?_
  refine am_aload_n F 3 dL_law_1628 rfl rfl ?_
  refine am_aload_n F 1 dL_law_1629 rfl rfl ?_
  refine am_iload F 6 dL_law_1630 rfl ?_
  refine am_iconst F (v := (1 : Int32)) dL_law_1632 (by decide) ?_
  refine am_iadd F dL_law_1633 ?_
  obtain ⟨q6, h⟩ := am_ciE h
  refine am_sld F hxs hbl hbz q6 dL_law_1634 ?_
  refine am_aload_n F 1 dL_law_1635 rfl rfl ?_
  refine am_iload F 6 dL_law_1636 rfl ?_
  refine am_iconst F (v := (2 : Int32)) dL_law_1638 (by decide) ?_
  refine am_iadd F dL_law_1639 ?_
  obtain ⟨q7, h⟩ := am_ciE h
  refine am_sld F hxs hbl hbz q7 dL_law_1640 ?_
  obtain ⟨v10, M9, h8, h⟩ := am_bE h
  refine am_callVi F [.int (xs (a5 + (1 : Int32)).toNatClampNeg), .int (xs (a5 + (2 : Int32)).toNatClampNeg)] lyk_174 (by decide) rfl cv_L_215 (c_X10_task l D E z (xs (a5 + (1 : Int32)).toNatClampNeg) (xs (a5 + (2 : Int32)).toNatClampNeg) M4 v10 M9 h8) yn_X10_task rfl ⟨Nat.le_of_ble_eq_true rfl, Nat.le_of_ble_eq_true rfl⟩ rfl rfl (Nat.le_of_ble_eq_true rfl) ⟨(show cl + 2 ≤ 603072 by omega), (show sl + 12 ≤ 7198826 by omega)⟩ dL_law_1641 rfl ?_
  refine am_istore F [(7, .int v10), (6, .int v5), (0, .ref b), (1, .ref (z + 0)), (2, .ref (z + 174)), (3, .ref (z + 186)), (4, .ref (z + 187)), (5, .int a5)] dL_law_1644 (by decide) rfl ?_
  refine am_aload_n F 4 dL_law_1646 rfl rfl ?_
  obtain ⟨v13, M12, h11, h⟩ := am_bE h
  refine am_callVi F [] lyk_174 (by decide) rfl cv_L_148 (c_X10_thrown l D E z  M9 v13 M12 h11) yn_X10_thrown rfl ⟨Nat.le_of_ble_eq_true rfl, Nat.le_of_ble_eq_true rfl⟩ rfl rfl (Nat.le_of_ble_eq_true rfl) ⟨(show cl + 2 ≤ 603072 by omega), (show sl + 12 ≤ 7198826 by omega)⟩ dL_law_1647 rfl ?_
  refine am_iload F 1 dL_law_1650 rfl ?_
  refine am_icmp_eq F (tgt := 1657) dL_law_1652 (by decide) (fun c17 => ?_) (fun c17 => ?_)
  · have h := (if_pos c17).symm.trans h
    refine am_iload F 1 dL_law_1657 rfl ?_
    refine am_if_ne F (tgt := 1674) dL_law_1659 (by decide) (fun c16 => ?_) (fun c16 => ?_)
    · have h := (if_neg c16).symm.trans h
      refine am_goto F (tgt := 2501) dL_law_1674 (by decide) ?_
      refine am_iinc F [(5, .int (a5 + (5 : Int32))), (7, .int v10), (6, .int v5), (0, .ref b), (1, .ref (z + 0)), (2, .ref (z + 174)), (3, .ref (z + 186)), (4, .ref (z + 187))] 7 dL_law_2501 (by decide) rfl rfl rfl ?_
      refine am_goto F (tgt := 28) dL_law_2504 (by decide) ?_
      exact am_sub (lv' := [(0, .ref b), (1, .ref (z + 0)), (2, .ref (z + 174)), (3, .ref (z + 186)), (4, .ref (z + 187)), (5, .int (a5 + (5 : Int32)))]) [3, 4, 5, 6, 7, 0] rfl (HR (a5 + (5 : Int32)) M12 (cl + 2) (sl + 12) (by omega) (by omega) h)
    · have h := (if_pos c16).symm.trans h
      refine am_aload_n F 5 dL_law_1662 rfl rfl ?_
      refine am_iconst F (v := (0 : Int32)) dL_law_1663 (by decide) ?_
      obtain ⟨q14, h⟩ := am_ciE h
      refine am_lald F lyk_186 q14 dL_law_1664 ?_
      refine am_iload F 0 dL_law_1665 rfl ?_
      refine am_i2l F dL_law_1667 ?_
      refine am_lcmp F dL_law_1668 ?_
      refine am_if_eq F (tgt := 1674) dL_law_1669 (by decide) (fun c15 => ?_) (fun c15 => ?_)
      · have h := (if_pos c15).symm.trans h
        refine am_goto F (tgt := 2501) dL_law_1674 (by decide) ?_
        refine am_iinc F [(5, .int (a5 + (5 : Int32))), (7, .int v10), (6, .int v5), (0, .ref b), (1, .ref (z + 0)), (2, .ref (z + 174)), (3, .ref (z + 186)), (4, .ref (z + 187))] 7 dL_law_2501 (by decide) rfl rfl rfl ?_
        refine am_goto F (tgt := 28) dL_law_2504 (by decide) ?_
        exact am_sub (lv' := [(0, .ref b), (1, .ref (z + 0)), (2, .ref (z + 174)), (3, .ref (z + 186)), (4, .ref (z + 187)), (5, .int (a5 + (5 : Int32)))]) [3, 4, 5, 6, 7, 0] rfl (HR (a5 + (5 : Int32)) M12 (cl + 2) (sl + 12) (by omega) (by omega) h)
      · have h := (if_neg c15).symm.trans h
        cases h
  · have h := (if_neg c17).symm.trans h
    cases h
def g_L_law_J1677 (xs : Nat → Int32) (L : Nat) (rc : Int32 → am_M → Option (Unit × am_M)) (a5 : Int32) (M : am_M) : Option (Unit × am_M) := (am_b (g_X9_assignAll  M) (fun v3 M2 => (am_b (g_X10_assignAll  M2) (fun v6 M5 => (if v3 = v6 then (rc (a5 + (5 : Int32)) M5) else none)))))
set_option maxHeartbeats 4000000 in
set_option maxRecDepth 100000 in
theorem cj_L_law_J1677 {l : Launch} {p : Program} {e : Env} {s : State} {m : MethodId} {args : Array Value} {below : List Frame} {meth : Method} {c : Code} {Q : State → Prop} {D : va_G} {E : Nat → ClassId} {z b L : Nat} {xs : Nat → Int32} (F : am_F p s m args meth c cL_law 9 RL D E z) (hxs : va_X b L xs s s.heap) (hbl : b < s.heap.size) (hbz : ¬ z ≤ b) (hNC : am_NC s) (hls : l.stackTraces = false) (rc : Int32 → am_M → Option (Unit × am_M)) (a5 : Int32) (M M1 : am_M) (cl sl : Nat) (hc9 : cl + 10 ≤ 603072) (hs9 : sl + 60 ≤ 7198826) (h : g_L_law_J1677 xs L rc a5 M = some ((), M1)) (HR : ∀ (b5 : Int32) (M2 : am_M) (cl2 sl2 : Nat), cl2 ≤ cl + 10 → sl2 ≤ sl + 60 → rc b5 M2 = some ((), M1) → am_W p l e room_1 s m args below meth c Q 9 D E z cl2 sl2 M2 28 [(0, .ref b), (1, .ref (z + 0)), (2, .ref (z + 174)), (3, .ref (z + 186)), (4, .ref (z + 187)), (5, .int b5)] []) : am_W p l e room_1 s m args below meth c Q 9 D E z cl sl M 1677 [(0, .ref b), (1, .ref (z + 0)), (2, .ref (z + 174)), (3, .ref (z + 186)), (4, .ref (z + 187)), (5, .int a5)] [] := by
  unfold g_L_law_J1677 at h
  refine am_aload_n F 1 dL_law_1677 rfl rfl ?_
  obtain ⟨v3, M2, h1, h⟩ := am_bE h
  refine am_callVi F [] lyk_0 (by decide) rfl cv_L_216 (c_X9_assignAll l D E z  M v3 M2 h1) yn_X9_assignAll rfl ⟨Nat.le_of_ble_eq_true rfl, Nat.le_of_ble_eq_true rfl⟩ rfl rfl (Nat.le_of_ble_eq_true rfl) ⟨(show cl ≤ 603072 by omega), (show sl ≤ 7198826 by omega)⟩ dL_law_1678 rfl ?_
  refine am_aload_n F 2 dL_law_1681 rfl rfl ?_
  obtain ⟨v6, M5, h4, h⟩ := am_bE h
  refine am_callVi F [] lyk_174 (by decide) rfl cv_L_219 (c_X10_assignAll l D E z  M2 v6 M5 h4) yn_X10_assignAll rfl ⟨Nat.le_of_ble_eq_true rfl, Nat.le_of_ble_eq_true rfl⟩ rfl rfl (Nat.le_of_ble_eq_true rfl) ⟨(show cl ≤ 603072 by omega), (show sl ≤ 7198826 by omega)⟩ dL_law_1682 rfl ?_
  refine am_icmp_eq F (tgt := 2501) dL_law_1685 (by decide) (fun c7 => ?_) (fun c7 => ?_)
  · have h := (if_pos c7).symm.trans h
    refine am_iinc F [(5, .int (a5 + (5 : Int32))), (0, .ref b), (1, .ref (z + 0)), (2, .ref (z + 174)), (3, .ref (z + 186)), (4, .ref (z + 187))] 5 dL_law_2501 (by decide) rfl rfl rfl ?_
    refine am_goto F (tgt := 28) dL_law_2504 (by decide) ?_
    exact am_sub (lv' := [(0, .ref b), (1, .ref (z + 0)), (2, .ref (z + 174)), (3, .ref (z + 186)), (4, .ref (z + 187)), (5, .int (a5 + (5 : Int32)))]) [1, 2, 3, 4, 5, 0] rfl (HR (a5 + (5 : Int32)) M5 cl sl (by omega) (by omega) h)
  · have h := (if_neg c7).symm.trans h
    cases h
def g_L_law_J1690 (xs : Nat → Int32) (L : Nat) (rc : Int32 → am_M → Option (Unit × am_M)) (a5 : Int32) (M : am_M) : Option (Unit × am_M) := (am_ci (a5 + (1 : Int32)) L (am_b (g_L_tasksIn (xs (a5 + (1 : Int32)).toNatClampNeg) M) (fun v4 M3 => (am_ci (a5 + (1 : Int32)) L (am_b (g_X10_tasksIn (xs (a5 + (1 : Int32)).toNatClampNeg) M3) (fun v8 M7 => (am_b (g_X10_thrown  M7) (fun v11 M10 => (if v11 = v4 then (if v4 = (0 : Int32) then (am_ci (0 : Int32) 1 (if (lg_cmp (am_lg M10 186 (0 : Int32).toNatClampNeg) (v8.toInt64)) = (0 : Int32) then (rc (a5 + (5 : Int32)) M10) else none)) else (rc (a5 + (5 : Int32)) M10)) else none)))))))))
set_option maxHeartbeats 4000000 in
set_option maxRecDepth 100000 in
theorem cj_L_law_J1690 {l : Launch} {p : Program} {e : Env} {s : State} {m : MethodId} {args : Array Value} {below : List Frame} {meth : Method} {c : Code} {Q : State → Prop} {D : va_G} {E : Nat → ClassId} {z b L : Nat} {xs : Nat → Int32} (F : am_F p s m args meth c cL_law 9 RL D E z) (hxs : va_X b L xs s s.heap) (hbl : b < s.heap.size) (hbz : ¬ z ≤ b) (hNC : am_NC s) (hls : l.stackTraces = false) (rc : Int32 → am_M → Option (Unit × am_M)) (a5 : Int32) (M M1 : am_M) (cl sl : Nat) (hc9 : cl + 10 ≤ 603072) (hs9 : sl + 60 ≤ 7198826) (h : g_L_law_J1690 xs L rc a5 M = some ((), M1)) (HR : ∀ (b5 : Int32) (M2 : am_M) (cl2 sl2 : Nat), cl2 ≤ cl + 10 → sl2 ≤ sl + 60 → rc b5 M2 = some ((), M1) → am_W p l e room_1 s m args below meth c Q 9 D E z cl2 sl2 M2 28 [(0, .ref b), (1, .ref (z + 0)), (2, .ref (z + 174)), (3, .ref (z + 186)), (4, .ref (z + 187)), (5, .int b5)] []) : am_W p l e room_1 s m args below meth c Q 9 D E z cl sl M 1690 [(0, .ref b), (1, .ref (z + 0)), (2, .ref (z + 174)), (3, .ref (z + 186)), (4, .ref (z + 187)), (5, .int a5)] [] := by
  unfold g_L_law_J1690 at h
  refine am_aload_n F 1 dL_law_1690 rfl rfl ?_
  refine am_aload_n F 0 dL_law_1691 rfl rfl ?_
  refine am_iload F 5 dL_law_1692 rfl ?_
  refine am_iconst F (v := (1 : Int32)) dL_law_1694 (by decide) ?_
  refine am_iadd F dL_law_1695 ?_
  obtain ⟨q1, h⟩ := am_ciE h
  refine am_sld F hxs hbl hbz q1 dL_law_1696 ?_
  refine am_aload_n F 3 dL_law_1697 rfl rfl ?_
  obtain ⟨v4, M3, h2, h⟩ := am_bE h
  refine am_callL F hNC [.ref (z + 0), .int (xs (a5 + (1 : Int32)).toNatClampNeg), .ref (z + 186)] cs_L_220 (c_L_tasksIn l hls D E z (xs (a5 + (1 : Int32)).toNatClampNeg) M v4 M3 h2) yn_L_tasksIn rfl ⟨Nat.le_of_ble_eq_true rfl, Nat.le_of_ble_eq_true rfl⟩ rfl rfl (Nat.le_of_ble_eq_true rfl) ⟨(show cl + 1 ≤ 603072 by omega), (show sl + 6 ≤ 7198826 by omega)⟩ dL_law_1698 rfl ?_
  refine am_istore F [(6, .int v4), (0, .ref b), (1, .ref (z + 0)), (2, .ref (z + 174)), (3, .ref (z + 186)), (4, .ref (z + 187)), (5, .int a5)] dL_law_1701 (by decide) rfl ?_
  refine am_aload_n F 3 dL_law_1703 rfl rfl ?_
  refine am_aload_n F 1 dL_law_1704 rfl rfl ?_
  refine am_iload F 6 dL_law_1705 rfl ?_
  refine am_iconst F (v := (1 : Int32)) dL_law_1707 (by decide) ?_
  refine am_iadd F dL_law_1708 ?_
  obtain ⟨q5, h⟩ := am_ciE h
  refine am_sld F hxs hbl hbz q5 dL_law_1709 ?_
  obtain ⟨v8, M7, h6, h⟩ := am_bE h
  refine am_callVi F [.int (xs (a5 + (1 : Int32)).toNatClampNeg)] lyk_174 (by decide) rfl cv_L_222 (c_X10_tasksIn l D E z (xs (a5 + (1 : Int32)).toNatClampNeg) M3 v8 M7 h6) yn_X10_tasksIn rfl ⟨Nat.le_of_ble_eq_true rfl, Nat.le_of_ble_eq_true rfl⟩ rfl rfl (Nat.le_of_ble_eq_true rfl) ⟨(show cl + 1 ≤ 603072 by omega), (show sl + 6 ≤ 7198826 by omega)⟩ dL_law_1710 rfl ?_
  refine am_istore F [(7, .int v8), (6, .int v4), (0, .ref b), (1, .ref (z + 0)), (2, .ref (z + 174)), (3, .ref (z + 186)), (4, .ref (z + 187)), (5, .int a5)] dL_law_1713 (by decide) rfl ?_
  refine am_aload_n F 4 dL_law_1715 rfl rfl ?_
  obtain ⟨v11, M10, h9, h⟩ := am_bE h
  refine am_callVi F [] lyk_174 (by decide) rfl cv_L_148 (c_X10_thrown l D E z  M7 v11 M10 h9) yn_X10_thrown rfl ⟨Nat.le_of_ble_eq_true rfl, Nat.le_of_ble_eq_true rfl⟩ rfl rfl (Nat.le_of_ble_eq_true rfl) ⟨(show cl + 1 ≤ 603072 by omega), (show sl + 6 ≤ 7198826 by omega)⟩ dL_law_1716 rfl ?_
  refine am_iload F 1 dL_law_1719 rfl ?_
  refine am_icmp_eq F (tgt := 1726) dL_law_1721 (by decide) (fun c15 => ?_) (fun c15 => ?_)
  · have h := (if_pos c15).symm.trans h
    refine am_iload F 1 dL_law_1726 rfl ?_
    refine am_if_ne F (tgt := 1743) dL_law_1728 (by decide) (fun c14 => ?_) (fun c14 => ?_)
    · have h := (if_neg c14).symm.trans h
      refine am_goto F (tgt := 2501) dL_law_1743 (by decide) ?_
      refine am_iinc F [(5, .int (a5 + (5 : Int32))), (7, .int v8), (6, .int v4), (0, .ref b), (1, .ref (z + 0)), (2, .ref (z + 174)), (3, .ref (z + 186)), (4, .ref (z + 187))] 7 dL_law_2501 (by decide) rfl rfl rfl ?_
      refine am_goto F (tgt := 28) dL_law_2504 (by decide) ?_
      exact am_sub (lv' := [(0, .ref b), (1, .ref (z + 0)), (2, .ref (z + 174)), (3, .ref (z + 186)), (4, .ref (z + 187)), (5, .int (a5 + (5 : Int32)))]) [3, 4, 5, 6, 7, 0] rfl (HR (a5 + (5 : Int32)) M10 (cl + 1) (sl + 6) (by omega) (by omega) h)
    · have h := (if_pos c14).symm.trans h
      refine am_aload_n F 5 dL_law_1731 rfl rfl ?_
      refine am_iconst F (v := (0 : Int32)) dL_law_1732 (by decide) ?_
      obtain ⟨q12, h⟩ := am_ciE h
      refine am_lald F lyk_186 q12 dL_law_1733 ?_
      refine am_iload F 0 dL_law_1734 rfl ?_
      refine am_i2l F dL_law_1736 ?_
      refine am_lcmp F dL_law_1737 ?_
      refine am_if_eq F (tgt := 1743) dL_law_1738 (by decide) (fun c13 => ?_) (fun c13 => ?_)
      · have h := (if_pos c13).symm.trans h
        refine am_goto F (tgt := 2501) dL_law_1743 (by decide) ?_
        refine am_iinc F [(5, .int (a5 + (5 : Int32))), (7, .int v8), (6, .int v4), (0, .ref b), (1, .ref (z + 0)), (2, .ref (z + 174)), (3, .ref (z + 186)), (4, .ref (z + 187))] 7 dL_law_2501 (by decide) rfl rfl rfl ?_
        refine am_goto F (tgt := 28) dL_law_2504 (by decide) ?_
        exact am_sub (lv' := [(0, .ref b), (1, .ref (z + 0)), (2, .ref (z + 174)), (3, .ref (z + 186)), (4, .ref (z + 187)), (5, .int (a5 + (5 : Int32)))]) [3, 4, 5, 6, 7, 0] rfl (HR (a5 + (5 : Int32)) M10 (cl + 1) (sl + 6) (by omega) (by omega) h)
      · have h := (if_neg c13).symm.trans h
        cases h
  · have h := (if_neg c15).symm.trans h
    cases h
def g_L_law_J1746 (xs : Nat → Int32) (L : Nat) (rc : Int32 → am_M → Option (Unit × am_M)) (a5 : Int32) (M : am_M) : Option (Unit × am_M) := (am_ci (a5 + (1 : Int32)) L (am_b (g_L_advance (xs (a5 + (1 : Int32)).toNatClampNeg) M) (fun v4 M3 => (am_ci (a5 + (1 : Int32)) L (am_b (g_X10_advance (xs (a5 + (1 : Int32)).toNatClampNeg) M3) (fun v8 M7 => (am_b (g_X10_thrown  M7) (fun v11 M10 => (if v11 = v4 then (if v4 = (0 : Int32) then (am_ci (0 : Int32) 1 (if (lg_cmp (am_lg M10 186 (0 : Int32).toNatClampNeg) (v8.toInt64)) = (0 : Int32) then (rc (a5 + (5 : Int32)) M10) else none)) else (rc (a5 + (5 : Int32)) M10)) else none)))))))))
set_option maxHeartbeats 4000000 in
set_option maxRecDepth 100000 in
theorem cj_L_law_J1746 {l : Launch} {p : Program} {e : Env} {s : State} {m : MethodId} {args : Array Value} {below : List Frame} {meth : Method} {c : Code} {Q : State → Prop} {D : va_G} {E : Nat → ClassId} {z b L : Nat} {xs : Nat → Int32} (F : am_F p s m args meth c cL_law 9 RL D E z) (hxs : va_X b L xs s s.heap) (hbl : b < s.heap.size) (hbz : ¬ z ≤ b) (hNC : am_NC s) (hls : l.stackTraces = false) (rc : Int32 → am_M → Option (Unit × am_M)) (a5 : Int32) (M M1 : am_M) (cl sl : Nat) (hc9 : cl + 10 ≤ 603072) (hs9 : sl + 60 ≤ 7198826) (h : g_L_law_J1746 xs L rc a5 M = some ((), M1)) (HR : ∀ (b5 : Int32) (M2 : am_M) (cl2 sl2 : Nat), cl2 ≤ cl + 10 → sl2 ≤ sl + 60 → rc b5 M2 = some ((), M1) → am_W p l e room_1 s m args below meth c Q 9 D E z cl2 sl2 M2 28 [(0, .ref b), (1, .ref (z + 0)), (2, .ref (z + 174)), (3, .ref (z + 186)), (4, .ref (z + 187)), (5, .int b5)] []) : am_W p l e room_1 s m args below meth c Q 9 D E z cl sl M 1746 [(0, .ref b), (1, .ref (z + 0)), (2, .ref (z + 174)), (3, .ref (z + 186)), (4, .ref (z + 187)), (5, .int a5)] [] := by
  unfold g_L_law_J1746 at h
  refine am_aload_n F 1 dL_law_1746 rfl rfl ?_
  refine am_aload_n F 0 dL_law_1747 rfl rfl ?_
  refine am_iload F 5 dL_law_1748 rfl ?_
  refine am_iconst F (v := (1 : Int32)) dL_law_1750 (by decide) ?_
  refine am_iadd F dL_law_1751 ?_
  obtain ⟨q1, h⟩ := am_ciE h
  refine am_sld F hxs hbl hbz q1 dL_law_1752 ?_
  refine am_aload_n F 3 dL_law_1753 rfl rfl ?_
  obtain ⟨v4, M3, h2, h⟩ := am_bE h
  refine am_callL F hNC [.ref (z + 0), .int (xs (a5 + (1 : Int32)).toNatClampNeg), .ref (z + 186)] cs_L_223 (c_L_advance l hls D E z (xs (a5 + (1 : Int32)).toNatClampNeg) M v4 M3 h2) yn_L_advance rfl ⟨Nat.le_of_ble_eq_true rfl, Nat.le_of_ble_eq_true rfl⟩ rfl rfl (Nat.le_of_ble_eq_true rfl) ⟨(show cl + 2 ≤ 603072 by omega), (show sl + 12 ≤ 7198826 by omega)⟩ dL_law_1754 rfl ?_
  refine am_istore F [(6, .int v4), (0, .ref b), (1, .ref (z + 0)), (2, .ref (z + 174)), (3, .ref (z + 186)), (4, .ref (z + 187)), (5, .int a5)] dL_law_1757 (by decide) rfl ?_
  refine am_aload_n F 3 dL_law_1759 rfl rfl ?_
  refine am_aload_n F 1 dL_law_1760 rfl rfl ?_
  refine am_iload F 6 dL_law_1761 rfl ?_
  refine am_iconst F (v := (1 : Int32)) dL_law_1763 (by decide) ?_
  refine am_iadd F dL_law_1764 ?_
  obtain ⟨q5, h⟩ := am_ciE h
  refine am_sld F hxs hbl hbz q5 dL_law_1765 ?_
  obtain ⟨v8, M7, h6, h⟩ := am_bE h
  refine am_callVi F [.int (xs (a5 + (1 : Int32)).toNatClampNeg)] lyk_174 (by decide) rfl cv_L_225 (c_X10_advance l D E z (xs (a5 + (1 : Int32)).toNatClampNeg) M3 v8 M7 h6) yn_X10_advance rfl ⟨Nat.le_of_ble_eq_true rfl, Nat.le_of_ble_eq_true rfl⟩ rfl rfl (Nat.le_of_ble_eq_true rfl) ⟨(show cl + 2 ≤ 603072 by omega), (show sl + 12 ≤ 7198826 by omega)⟩ dL_law_1766 rfl ?_
  refine am_istore F [(7, .int v8), (6, .int v4), (0, .ref b), (1, .ref (z + 0)), (2, .ref (z + 174)), (3, .ref (z + 186)), (4, .ref (z + 187)), (5, .int a5)] dL_law_1769 (by decide) rfl ?_
  refine am_aload_n F 4 dL_law_1771 rfl rfl ?_
  obtain ⟨v11, M10, h9, h⟩ := am_bE h
  refine am_callVi F [] lyk_174 (by decide) rfl cv_L_148 (c_X10_thrown l D E z  M7 v11 M10 h9) yn_X10_thrown rfl ⟨Nat.le_of_ble_eq_true rfl, Nat.le_of_ble_eq_true rfl⟩ rfl rfl (Nat.le_of_ble_eq_true rfl) ⟨(show cl + 2 ≤ 603072 by omega), (show sl + 12 ≤ 7198826 by omega)⟩ dL_law_1772 rfl ?_
  refine am_iload F 1 dL_law_1775 rfl ?_
  refine am_icmp_eq F (tgt := 1782) dL_law_1777 (by decide) (fun c15 => ?_) (fun c15 => ?_)
  · have h := (if_pos c15).symm.trans h
    refine am_iload F 1 dL_law_1782 rfl ?_
    refine am_if_ne F (tgt := 1799) dL_law_1784 (by decide) (fun c14 => ?_) (fun c14 => ?_)
    · have h := (if_neg c14).symm.trans h
      refine am_goto F (tgt := 2501) dL_law_1799 (by decide) ?_
      refine am_iinc F [(5, .int (a5 + (5 : Int32))), (7, .int v8), (6, .int v4), (0, .ref b), (1, .ref (z + 0)), (2, .ref (z + 174)), (3, .ref (z + 186)), (4, .ref (z + 187))] 7 dL_law_2501 (by decide) rfl rfl rfl ?_
      refine am_goto F (tgt := 28) dL_law_2504 (by decide) ?_
      exact am_sub (lv' := [(0, .ref b), (1, .ref (z + 0)), (2, .ref (z + 174)), (3, .ref (z + 186)), (4, .ref (z + 187)), (5, .int (a5 + (5 : Int32)))]) [3, 4, 5, 6, 7, 0] rfl (HR (a5 + (5 : Int32)) M10 (cl + 2) (sl + 12) (by omega) (by omega) h)
    · have h := (if_pos c14).symm.trans h
      refine am_aload_n F 5 dL_law_1787 rfl rfl ?_
      refine am_iconst F (v := (0 : Int32)) dL_law_1788 (by decide) ?_
      obtain ⟨q12, h⟩ := am_ciE h
      refine am_lald F lyk_186 q12 dL_law_1789 ?_
      refine am_iload F 0 dL_law_1790 rfl ?_
      refine am_i2l F dL_law_1792 ?_
      refine am_lcmp F dL_law_1793 ?_
      refine am_if_eq F (tgt := 1799) dL_law_1794 (by decide) (fun c13 => ?_) (fun c13 => ?_)
      · have h := (if_pos c13).symm.trans h
        refine am_goto F (tgt := 2501) dL_law_1799 (by decide) ?_
        refine am_iinc F [(5, .int (a5 + (5 : Int32))), (7, .int v8), (6, .int v4), (0, .ref b), (1, .ref (z + 0)), (2, .ref (z + 174)), (3, .ref (z + 186)), (4, .ref (z + 187))] 7 dL_law_2501 (by decide) rfl rfl rfl ?_
        refine am_goto F (tgt := 28) dL_law_2504 (by decide) ?_
        exact am_sub (lv' := [(0, .ref b), (1, .ref (z + 0)), (2, .ref (z + 174)), (3, .ref (z + 186)), (4, .ref (z + 187)), (5, .int (a5 + (5 : Int32)))]) [3, 4, 5, 6, 7, 0] rfl (HR (a5 + (5 : Int32)) M10 (cl + 2) (sl + 12) (by omega) (by omega) h)
      · have h := (if_neg c13).symm.trans h
        cases h
  · have h := (if_neg c15).symm.trans h
    cases h
def g_L_law_J1802 (xs : Nat → Int32) (L : Nat) (rc : Int32 → am_M → Option (Unit × am_M)) (a5 : Int32) (M : am_M) : Option (Unit × am_M) := (am_ci (a5 + (1 : Int32)) L (am_ci (a5 + (2 : Int32)) L (am_b (g_L_statistic (xs (a5 + (1 : Int32)).toNatClampNeg) (xs (a5 + (2 : Int32)).toNatClampNeg) M) (fun v5 M4 => (am_ci (a5 + (1 : Int32)) L (am_ci (a5 + (2 : Int32)) L (am_b (g_X10_statistic (xs (a5 + (1 : Int32)).toNatClampNeg) (xs (a5 + (2 : Int32)).toNatClampNeg) M4) (fun v10 M9 => (am_b (g_X10_thrown  M9) (fun v13 M12 => (if v13 = v5 then (if v5 = (0 : Int32) then (am_ci (0 : Int32) 1 (if (lg_cmp (am_lg M12 186 (0 : Int32).toNatClampNeg) (v10.toInt64)) = (0 : Int32) then (rc (a5 + (5 : Int32)) M12) else none)) else (rc (a5 + (5 : Int32)) M12)) else none)))))))))))
set_option maxHeartbeats 4000000 in
set_option maxRecDepth 100000 in
theorem cj_L_law_J1802 {l : Launch} {p : Program} {e : Env} {s : State} {m : MethodId} {args : Array Value} {below : List Frame} {meth : Method} {c : Code} {Q : State → Prop} {D : va_G} {E : Nat → ClassId} {z b L : Nat} {xs : Nat → Int32} (F : am_F p s m args meth c cL_law 9 RL D E z) (hxs : va_X b L xs s s.heap) (hbl : b < s.heap.size) (hbz : ¬ z ≤ b) (hNC : am_NC s) (hls : l.stackTraces = false) (rc : Int32 → am_M → Option (Unit × am_M)) (a5 : Int32) (M M1 : am_M) (cl sl : Nat) (hc9 : cl + 10 ≤ 603072) (hs9 : sl + 60 ≤ 7198826) (h : g_L_law_J1802 xs L rc a5 M = some ((), M1)) (HR : ∀ (b5 : Int32) (M2 : am_M) (cl2 sl2 : Nat), cl2 ≤ cl + 10 → sl2 ≤ sl + 60 → rc b5 M2 = some ((), M1) → am_W p l e room_1 s m args below meth c Q 9 D E z cl2 sl2 M2 28 [(0, .ref b), (1, .ref (z + 0)), (2, .ref (z + 174)), (3, .ref (z + 186)), (4, .ref (z + 187)), (5, .int b5)] []) : am_W p l e room_1 s m args below meth c Q 9 D E z cl sl M 1802 [(0, .ref b), (1, .ref (z + 0)), (2, .ref (z + 174)), (3, .ref (z + 186)), (4, .ref (z + 187)), (5, .int a5)] [] := by
  unfold g_L_law_J1802 at h
  refine am_aload_n F 1 dL_law_1802 rfl rfl ?_
  refine am_aload_n F 0 dL_law_1803 rfl rfl ?_
  refine am_iload F 5 dL_law_1804 rfl ?_
  refine am_iconst F (v := (1 : Int32)) dL_law_1806 (by decide) ?_
  refine am_iadd F dL_law_1807 ?_
  obtain ⟨q1, h⟩ := am_ciE h
  refine am_sld F hxs hbl hbz q1 dL_law_1808 ?_
  refine am_aload_n F 0 dL_law_1809 rfl rfl ?_
  refine am_iload F 5 dL_law_1810 rfl ?_
  refine am_iconst F (v := (2 : Int32)) dL_law_1812 (by decide) ?_
  refine am_iadd F dL_law_1813 ?_
  obtain ⟨q2, h⟩ := am_ciE h
  refine am_sld F hxs hbl hbz q2 dL_law_1814 ?_
  refine am_aload_n F 3 dL_law_1815 rfl rfl ?_
  obtain ⟨v5, M4, h3, h⟩ := am_bE h
  refine am_callL F hNC [.ref (z + 0), .int (xs (a5 + (1 : Int32)).toNatClampNeg), .int (xs (a5 + (2 : Int32)).toNatClampNeg), .ref (z + 186)] cs_L_226 (c_L_statistic l hls D E z (xs (a5 + (1 : Int32)).toNatClampNeg) (xs (a5 + (2 : Int32)).toNatClampNeg) M v5 M4 h3) yn_L_statistic rfl ⟨Nat.le_of_ble_eq_true rfl, Nat.le_of_ble_eq_true rfl⟩ rfl rfl (Nat.le_of_ble_eq_true rfl) ⟨(show cl + 2 ≤ 603072 by omega), (show sl + 12 ≤ 7198826 by omega)⟩ dL_law_1816 rfl ?_
  refine am_istore F [(6, .int v5), (0, .ref b), (1, .ref (z + 0)), (2, .ref (z + 174)), (3, .ref (z + 186)), (4, .ref (z + 187)), (5, .int a5)] dL_law_1819 (by decide) rfl ?_
  refine am_aload_n F 3 dL_law_1821 rfl rfl ?_
  refine am_aload_n F 1 dL_law_1822 rfl rfl ?_
  refine am_iload F 6 dL_law_1823 rfl ?_
  refine am_iconst F (v := (1 : Int32)) dL_law_1825 (by decide) ?_
  refine am_iadd F dL_law_1826 ?_
  obtain ⟨q6, h⟩ := am_ciE h
  refine am_sld F hxs hbl hbz q6 dL_law_1827 ?_
  refine am_aload_n F 1 dL_law_1828 rfl rfl ?_
  refine am_iload F 6 dL_law_1829 rfl ?_
  refine am_iconst F (v := (2 : Int32)) dL_law_1831 (by decide) ?_
  refine am_iadd F dL_law_1832 ?_
  obtain ⟨q7, h⟩ := am_ciE h
  refine am_sld F hxs hbl hbz q7 dL_law_1833 ?_
  obtain ⟨v10, M9, h8, h⟩ := am_bE h
  refine am_callVi F [.int (xs (a5 + (1 : Int32)).toNatClampNeg), .int (xs (a5 + (2 : Int32)).toNatClampNeg)] lyk_174 (by decide) rfl cv_L_228 (c_X10_statistic l D E z (xs (a5 + (1 : Int32)).toNatClampNeg) (xs (a5 + (2 : Int32)).toNatClampNeg) M4 v10 M9 h8) yn_X10_statistic rfl ⟨Nat.le_of_ble_eq_true rfl, Nat.le_of_ble_eq_true rfl⟩ rfl rfl (Nat.le_of_ble_eq_true rfl) ⟨(show cl + 2 ≤ 603072 by omega), (show sl + 12 ≤ 7198826 by omega)⟩ dL_law_1834 rfl ?_
  refine am_istore F [(7, .int v10), (6, .int v5), (0, .ref b), (1, .ref (z + 0)), (2, .ref (z + 174)), (3, .ref (z + 186)), (4, .ref (z + 187)), (5, .int a5)] dL_law_1837 (by decide) rfl ?_
  refine am_aload_n F 4 dL_law_1839 rfl rfl ?_
  obtain ⟨v13, M12, h11, h⟩ := am_bE h
  refine am_callVi F [] lyk_174 (by decide) rfl cv_L_148 (c_X10_thrown l D E z  M9 v13 M12 h11) yn_X10_thrown rfl ⟨Nat.le_of_ble_eq_true rfl, Nat.le_of_ble_eq_true rfl⟩ rfl rfl (Nat.le_of_ble_eq_true rfl) ⟨(show cl + 2 ≤ 603072 by omega), (show sl + 12 ≤ 7198826 by omega)⟩ dL_law_1840 rfl ?_
  refine am_iload F 1 dL_law_1843 rfl ?_
  refine am_icmp_eq F (tgt := 1850) dL_law_1845 (by decide) (fun c17 => ?_) (fun c17 => ?_)
  · have h := (if_pos c17).symm.trans h
    refine am_iload F 1 dL_law_1850 rfl ?_
    refine am_if_ne F (tgt := 1867) dL_law_1852 (by decide) (fun c16 => ?_) (fun c16 => ?_)
    · have h := (if_neg c16).symm.trans h
      refine am_goto F (tgt := 2501) dL_law_1867 (by decide) ?_
      refine am_iinc F [(5, .int (a5 + (5 : Int32))), (7, .int v10), (6, .int v5), (0, .ref b), (1, .ref (z + 0)), (2, .ref (z + 174)), (3, .ref (z + 186)), (4, .ref (z + 187))] 7 dL_law_2501 (by decide) rfl rfl rfl ?_
      refine am_goto F (tgt := 28) dL_law_2504 (by decide) ?_
      exact am_sub (lv' := [(0, .ref b), (1, .ref (z + 0)), (2, .ref (z + 174)), (3, .ref (z + 186)), (4, .ref (z + 187)), (5, .int (a5 + (5 : Int32)))]) [3, 4, 5, 6, 7, 0] rfl (HR (a5 + (5 : Int32)) M12 (cl + 2) (sl + 12) (by omega) (by omega) h)
    · have h := (if_pos c16).symm.trans h
      refine am_aload_n F 5 dL_law_1855 rfl rfl ?_
      refine am_iconst F (v := (0 : Int32)) dL_law_1856 (by decide) ?_
      obtain ⟨q14, h⟩ := am_ciE h
      refine am_lald F lyk_186 q14 dL_law_1857 ?_
      refine am_iload F 0 dL_law_1858 rfl ?_
      refine am_i2l F dL_law_1860 ?_
      refine am_lcmp F dL_law_1861 ?_
      refine am_if_eq F (tgt := 1867) dL_law_1862 (by decide) (fun c15 => ?_) (fun c15 => ?_)
      · have h := (if_pos c15).symm.trans h
        refine am_goto F (tgt := 2501) dL_law_1867 (by decide) ?_
        refine am_iinc F [(5, .int (a5 + (5 : Int32))), (7, .int v10), (6, .int v5), (0, .ref b), (1, .ref (z + 0)), (2, .ref (z + 174)), (3, .ref (z + 186)), (4, .ref (z + 187))] 7 dL_law_2501 (by decide) rfl rfl rfl ?_
        refine am_goto F (tgt := 28) dL_law_2504 (by decide) ?_
        exact am_sub (lv' := [(0, .ref b), (1, .ref (z + 0)), (2, .ref (z + 174)), (3, .ref (z + 186)), (4, .ref (z + 187)), (5, .int (a5 + (5 : Int32)))]) [3, 4, 5, 6, 7, 0] rfl (HR (a5 + (5 : Int32)) M12 (cl + 2) (sl + 12) (by omega) (by omega) h)
      · have h := (if_neg c15).symm.trans h
        cases h
  · have h := (if_neg c17).symm.trans h
    cases h
def g_L_law_J1870 (xs : Nat → Int32) (L : Nat) (rc : Int32 → am_M → Option (Unit × am_M)) (a5 : Int32) (M : am_M) : Option (Unit × am_M) := (am_ci (a5 + (1 : Int32)) L (am_b (g_L_activity (xs (a5 + (1 : Int32)).toNatClampNeg) M) (fun v4 M3 => (am_ci (a5 + (1 : Int32)) L (am_b (g_X10_activity (xs (a5 + (1 : Int32)).toNatClampNeg) M3) (fun v8 M7 => (am_b (g_X10_thrown  M7) (fun v11 M10 => (if v11 = v4 then (if v4 = (0 : Int32) then (am_ci (0 : Int32) 1 (am_c ((FP.f2d v8) &&& 0x7fffffffffffffff ≤ 0x7ff0000000000000) (if (Op.cmpValue (FP.dcmp (am_dg M10 187 (0 : Int32).toNatClampNeg) (FP.f2d v8)) .l) = (0 : Int32) then (rc (a5 + (5 : Int32)) M10) else (am_ci (0 : Int32) 1 (am_ci (0 : Int32) 1 (if (Op.cmpValue (FP.dcmp (am_dg M10 187 (0 : Int32).toNatClampNeg) (am_dg M10 187 (0 : Int32).toNatClampNeg)) .l) = (0 : Int32) then none else (if (Op.cmpValue (FP.fcmp v8 v8) .l) = (0 : Int32) then none else (rc (a5 + (5 : Int32)) M10)))))))) else (rc (a5 + (5 : Int32)) M10)) else none)))))))))
set_option maxHeartbeats 4000000 in
set_option maxRecDepth 100000 in
theorem cj_L_law_J1870 {l : Launch} {p : Program} {e : Env} {s : State} {m : MethodId} {args : Array Value} {below : List Frame} {meth : Method} {c : Code} {Q : State → Prop} {D : va_G} {E : Nat → ClassId} {z b L : Nat} {xs : Nat → Int32} (F : am_F p s m args meth c cL_law 9 RL D E z) (hxs : va_X b L xs s s.heap) (hbl : b < s.heap.size) (hbz : ¬ z ≤ b) (hNC : am_NC s) (hls : l.stackTraces = false) (rc : Int32 → am_M → Option (Unit × am_M)) (a5 : Int32) (M M1 : am_M) (cl sl : Nat) (hc9 : cl + 10 ≤ 603072) (hs9 : sl + 60 ≤ 7198826) (h : g_L_law_J1870 xs L rc a5 M = some ((), M1)) (HR : ∀ (b5 : Int32) (M2 : am_M) (cl2 sl2 : Nat), cl2 ≤ cl + 10 → sl2 ≤ sl + 60 → rc b5 M2 = some ((), M1) → am_W p l e room_1 s m args below meth c Q 9 D E z cl2 sl2 M2 28 [(0, .ref b), (1, .ref (z + 0)), (2, .ref (z + 174)), (3, .ref (z + 186)), (4, .ref (z + 187)), (5, .int b5)] []) : am_W p l e room_1 s m args below meth c Q 9 D E z cl sl M 1870 [(0, .ref b), (1, .ref (z + 0)), (2, .ref (z + 174)), (3, .ref (z + 186)), (4, .ref (z + 187)), (5, .int a5)] [] := by
  unfold g_L_law_J1870 at h
  refine am_aload_n F 1 dL_law_1870 rfl rfl ?_
  refine am_aload_n F 0 dL_law_1871 rfl rfl ?_
  refine am_iload F 5 dL_law_1872 rfl ?_
  refine am_iconst F (v := (1 : Int32)) dL_law_1874 (by decide) ?_
  refine am_iadd F dL_law_1875 ?_
  obtain ⟨q1, h⟩ := am_ciE h
  refine am_sld F hxs hbl hbz q1 dL_law_1876 ?_
  refine am_aload F 4 dL_law_1877 rfl ?_
  obtain ⟨v4, M3, h2, h⟩ := am_bE h
  refine am_callL F hNC [.ref (z + 0), .int (xs (a5 + (1 : Int32)).toNatClampNeg), .ref (z + 187)] cs_L_229 (c_L_activity l hls D E z (xs (a5 + (1 : Int32)).toNatClampNeg) M v4 M3 h2) yn_L_activity rfl ⟨Nat.le_of_ble_eq_true rfl, Nat.le_of_ble_eq_true rfl⟩ rfl rfl (Nat.le_of_ble_eq_true rfl) ⟨(show cl + 2 ≤ 603072 by omega), (show sl + 12 ≤ 7198826 by omega)⟩ dL_law_1879 rfl ?_
  refine am_istore F [(6, .int v4), (0, .ref b), (1, .ref (z + 0)), (2, .ref (z + 174)), (3, .ref (z + 186)), (4, .ref (z + 187)), (5, .int a5)] dL_law_1882 (by decide) rfl ?_
  refine am_aload_n F 3 dL_law_1884 rfl rfl ?_
  refine am_aload_n F 1 dL_law_1885 rfl rfl ?_
  refine am_iload F 6 dL_law_1886 rfl ?_
  refine am_iconst F (v := (1 : Int32)) dL_law_1888 (by decide) ?_
  refine am_iadd F dL_law_1889 ?_
  obtain ⟨q5, h⟩ := am_ciE h
  refine am_sld F hxs hbl hbz q5 dL_law_1890 ?_
  obtain ⟨v8, M7, h6, h⟩ := am_bE h
  refine am_callVf F [.int (xs (a5 + (1 : Int32)).toNatClampNeg)] lyk_174 (by decide) rfl cv_L_232 (c_X10_activity l D E z (xs (a5 + (1 : Int32)).toNatClampNeg) M3 v8 M7 h6) yn_X10_activity rfl ⟨Nat.le_of_ble_eq_true rfl, Nat.le_of_ble_eq_true rfl⟩ rfl rfl (Nat.le_of_ble_eq_true rfl) ⟨(show cl + 2 ≤ 603072 by omega), (show sl + 12 ≤ 7198826 by omega)⟩ dL_law_1891 rfl ?_
  refine am_fstore F [(7, .float v8), (6, .int v4), (0, .ref b), (1, .ref (z + 0)), (2, .ref (z + 174)), (3, .ref (z + 186)), (4, .ref (z + 187)), (5, .int a5)] dL_law_1894 (by decide) rfl ?_
  refine am_aload_n F 4 dL_law_1896 rfl rfl ?_
  obtain ⟨v11, M10, h9, h⟩ := am_bE h
  refine am_callVi F [] lyk_174 (by decide) rfl cv_L_148 (c_X10_thrown l D E z  M7 v11 M10 h9) yn_X10_thrown rfl ⟨Nat.le_of_ble_eq_true rfl, Nat.le_of_ble_eq_true rfl⟩ rfl rfl (Nat.le_of_ble_eq_true rfl) ⟨(show cl + 2 ≤ 603072 by omega), (show sl + 12 ≤ 7198826 by omega)⟩ dL_law_1897 rfl ?_
  refine am_iload F 1 dL_law_1900 rfl ?_
  refine am_icmp_eq F (tgt := 1907) dL_law_1902 (by decide) (fun c20 => ?_) (fun c20 => ?_)
  · have h := (if_pos c20).symm.trans h
    refine am_iload F 1 dL_law_1907 rfl ?_
    refine am_if_ne F (tgt := 1945) dL_law_1909 (by decide) (fun c19 => ?_) (fun c19 => ?_)
    · have h := (if_neg c19).symm.trans h
      refine am_goto F (tgt := 2501) dL_law_1945 (by decide) ?_
      refine am_iinc F [(5, .int (a5 + (5 : Int32))), (7, .float v8), (6, .int v4), (0, .ref b), (1, .ref (z + 0)), (2, .ref (z + 174)), (3, .ref (z + 186)), (4, .ref (z + 187))] 7 dL_law_2501 (by decide) rfl rfl rfl ?_
      refine am_goto F (tgt := 28) dL_law_2504 (by decide) ?_
      exact am_sub (lv' := [(0, .ref b), (1, .ref (z + 0)), (2, .ref (z + 174)), (3, .ref (z + 186)), (4, .ref (z + 187)), (5, .int (a5 + (5 : Int32)))]) [3, 4, 5, 6, 7, 0] rfl (HR (a5 + (5 : Int32)) M10 (cl + 2) (sl + 12) (by omega) (by omega) h)
    · have h := (if_pos c19).symm.trans h
      refine am_aload F 6 dL_law_1912 rfl ?_
      refine am_iconst F (v := (0 : Int32)) dL_law_1914 (by decide) ?_
      obtain ⟨q12, h⟩ := am_ciE h
      refine am_dald F lyk_187 q12 dL_law_1915 ?_
      refine am_fload F 0 dL_law_1916 rfl ?_
      obtain ⟨q13, h⟩ := am_cE h
      refine am_f2d F dL_law_1918 q13 ?_
      refine am_dcmp F dL_law_1919 ?_
      refine am_if_eq F (tgt := 1945) dL_law_1920 (by decide) (fun c18 => ?_) (fun c18 => ?_)
      · have h := (if_pos c18).symm.trans h
        refine am_goto F (tgt := 2501) dL_law_1945 (by decide) ?_
        refine am_iinc F [(5, .int (a5 + (5 : Int32))), (7, .float v8), (6, .int v4), (0, .ref b), (1, .ref (z + 0)), (2, .ref (z + 174)), (3, .ref (z + 186)), (4, .ref (z + 187))] 7 dL_law_2501 (by decide) rfl rfl rfl ?_
        refine am_goto F (tgt := 28) dL_law_2504 (by decide) ?_
        exact am_sub (lv' := [(0, .ref b), (1, .ref (z + 0)), (2, .ref (z + 174)), (3, .ref (z + 186)), (4, .ref (z + 187)), (5, .int (a5 + (5 : Int32)))]) [3, 4, 5, 6, 7, 0] rfl (HR (a5 + (5 : Int32)) M10 (cl + 2) (sl + 12) (by omega) (by omega) h)
      · have h := (if_neg c18).symm.trans h
        refine am_aload F 6 dL_law_1923 rfl ?_
        refine am_iconst F (v := (0 : Int32)) dL_law_1925 (by decide) ?_
        obtain ⟨q14, h⟩ := am_ciE h
        refine am_dald F lyk_187 q14 dL_law_1926 ?_
        refine am_aload F 6 dL_law_1927 rfl ?_
        refine am_iconst F (v := (0 : Int32)) dL_law_1929 (by decide) ?_
        obtain ⟨q15, h⟩ := am_ciE h
        refine am_dald F lyk_187 q15 dL_law_1930 ?_
        refine am_dcmp F dL_law_1931 ?_
        refine am_if_eq F (tgt := 1943) dL_law_1932 (by decide) (fun c17 => ?_) (fun c17 => ?_)
        · have h := (if_pos c17).symm.trans h
          cases h
        · have h := (if_neg c17).symm.trans h
          refine am_fload F 0 dL_law_1935 rfl ?_
          refine am_fload F 0 dL_law_1937 rfl ?_
          refine am_fcmp F dL_law_1939 ?_
          refine am_if_ne F (tgt := 1945) dL_law_1940 (by decide) (fun c16 => ?_) (fun c16 => ?_)
          · have h := (if_neg c16).symm.trans h
            refine am_goto F (tgt := 2501) dL_law_1945 (by decide) ?_
            refine am_iinc F [(5, .int (a5 + (5 : Int32))), (7, .float v8), (6, .int v4), (0, .ref b), (1, .ref (z + 0)), (2, .ref (z + 174)), (3, .ref (z + 186)), (4, .ref (z + 187))] 7 dL_law_2501 (by decide) rfl rfl rfl ?_
            refine am_goto F (tgt := 28) dL_law_2504 (by decide) ?_
            exact am_sub (lv' := [(0, .ref b), (1, .ref (z + 0)), (2, .ref (z + 174)), (3, .ref (z + 186)), (4, .ref (z + 187)), (5, .int (a5 + (5 : Int32)))]) [3, 4, 5, 6, 7, 0] rfl (HR (a5 + (5 : Int32)) M10 (cl + 2) (sl + 12) (by omega) (by omega) h)
          · have h := (if_pos c16).symm.trans h
            cases h
  · have h := (if_neg c20).symm.trans h
    cases h
def g_L_law_J1948 (xs : Nat → Int32) (L : Nat) (rc : Int32 → am_M → Option (Unit × am_M)) (a5 : Int32) (M : am_M) : Option (Unit × am_M) := (am_ci (a5 + (1 : Int32)) L (am_b (g_L_activityBits (xs (a5 + (1 : Int32)).toNatClampNeg) M) (fun v4 M3 => (am_ci (a5 + (1 : Int32)) L (am_b (g_X10_activityBits (xs (a5 + (1 : Int32)).toNatClampNeg) M3) (fun v8 M7 => (am_b (g_X10_thrown  M7) (fun v11 M10 => (if v11 = v4 then (if v4 = (0 : Int32) then (am_ci (0 : Int32) 1 (if (lg_cmp (am_lg M10 186 (0 : Int32).toNatClampNeg) (v8.toInt64)) = (0 : Int32) then (rc (a5 + (5 : Int32)) M10) else none)) else (rc (a5 + (5 : Int32)) M10)) else none)))))))))
set_option maxHeartbeats 4000000 in
set_option maxRecDepth 100000 in
theorem cj_L_law_J1948 {l : Launch} {p : Program} {e : Env} {s : State} {m : MethodId} {args : Array Value} {below : List Frame} {meth : Method} {c : Code} {Q : State → Prop} {D : va_G} {E : Nat → ClassId} {z b L : Nat} {xs : Nat → Int32} (F : am_F p s m args meth c cL_law 9 RL D E z) (hxs : va_X b L xs s s.heap) (hbl : b < s.heap.size) (hbz : ¬ z ≤ b) (hNC : am_NC s) (hls : l.stackTraces = false) (rc : Int32 → am_M → Option (Unit × am_M)) (a5 : Int32) (M M1 : am_M) (cl sl : Nat) (hc9 : cl + 10 ≤ 603072) (hs9 : sl + 60 ≤ 7198826) (h : g_L_law_J1948 xs L rc a5 M = some ((), M1)) (HR : ∀ (b5 : Int32) (M2 : am_M) (cl2 sl2 : Nat), cl2 ≤ cl + 10 → sl2 ≤ sl + 60 → rc b5 M2 = some ((), M1) → am_W p l e room_1 s m args below meth c Q 9 D E z cl2 sl2 M2 28 [(0, .ref b), (1, .ref (z + 0)), (2, .ref (z + 174)), (3, .ref (z + 186)), (4, .ref (z + 187)), (5, .int b5)] []) : am_W p l e room_1 s m args below meth c Q 9 D E z cl sl M 1948 [(0, .ref b), (1, .ref (z + 0)), (2, .ref (z + 174)), (3, .ref (z + 186)), (4, .ref (z + 187)), (5, .int a5)] [] := by
  unfold g_L_law_J1948 at h
  refine am_aload_n F 1 dL_law_1948 rfl rfl ?_
  refine am_aload_n F 0 dL_law_1949 rfl rfl ?_
  refine am_iload F 5 dL_law_1950 rfl ?_
  refine am_iconst F (v := (1 : Int32)) dL_law_1952 (by decide) ?_
  refine am_iadd F dL_law_1953 ?_
  obtain ⟨q1, h⟩ := am_ciE h
  refine am_sld F hxs hbl hbz q1 dL_law_1954 ?_
  refine am_aload_n F 3 dL_law_1955 rfl rfl ?_
  obtain ⟨v4, M3, h2, h⟩ := am_bE h
  refine am_callL F hNC [.ref (z + 0), .int (xs (a5 + (1 : Int32)).toNatClampNeg), .ref (z + 186)] cs_L_233 (c_L_activityBits l hls D E z (xs (a5 + (1 : Int32)).toNatClampNeg) M v4 M3 h2) yn_L_activityBits rfl ⟨Nat.le_of_ble_eq_true rfl, Nat.le_of_ble_eq_true rfl⟩ rfl rfl (Nat.le_of_ble_eq_true rfl) ⟨(show cl + 2 ≤ 603072 by omega), (show sl + 12 ≤ 7198826 by omega)⟩ dL_law_1956 rfl ?_
  refine am_istore F [(6, .int v4), (0, .ref b), (1, .ref (z + 0)), (2, .ref (z + 174)), (3, .ref (z + 186)), (4, .ref (z + 187)), (5, .int a5)] dL_law_1959 (by decide) rfl ?_
  refine am_aload_n F 3 dL_law_1961 rfl rfl ?_
  refine am_aload_n F 1 dL_law_1962 rfl rfl ?_
  refine am_iload F 6 dL_law_1963 rfl ?_
  refine am_iconst F (v := (1 : Int32)) dL_law_1965 (by decide) ?_
  refine am_iadd F dL_law_1966 ?_
  obtain ⟨q5, h⟩ := am_ciE h
  refine am_sld F hxs hbl hbz q5 dL_law_1967 ?_
  obtain ⟨v8, M7, h6, h⟩ := am_bE h
  refine am_callVi F [.int (xs (a5 + (1 : Int32)).toNatClampNeg)] lyk_174 (by decide) rfl cv_L_235 (c_X10_activityBits l D E z (xs (a5 + (1 : Int32)).toNatClampNeg) M3 v8 M7 h6) yn_X10_activityBits rfl ⟨Nat.le_of_ble_eq_true rfl, Nat.le_of_ble_eq_true rfl⟩ rfl rfl (Nat.le_of_ble_eq_true rfl) ⟨(show cl + 2 ≤ 603072 by omega), (show sl + 12 ≤ 7198826 by omega)⟩ dL_law_1968 rfl ?_
  refine am_istore F [(7, .int v8), (6, .int v4), (0, .ref b), (1, .ref (z + 0)), (2, .ref (z + 174)), (3, .ref (z + 186)), (4, .ref (z + 187)), (5, .int a5)] dL_law_1971 (by decide) rfl ?_
  refine am_aload_n F 4 dL_law_1973 rfl rfl ?_
  obtain ⟨v11, M10, h9, h⟩ := am_bE h
  refine am_callVi F [] lyk_174 (by decide) rfl cv_L_148 (c_X10_thrown l D E z  M7 v11 M10 h9) yn_X10_thrown rfl ⟨Nat.le_of_ble_eq_true rfl, Nat.le_of_ble_eq_true rfl⟩ rfl rfl (Nat.le_of_ble_eq_true rfl) ⟨(show cl + 2 ≤ 603072 by omega), (show sl + 12 ≤ 7198826 by omega)⟩ dL_law_1974 rfl ?_
  refine am_iload F 1 dL_law_1977 rfl ?_
  refine am_icmp_eq F (tgt := 1984) dL_law_1979 (by decide) (fun c15 => ?_) (fun c15 => ?_)
  · have h := (if_pos c15).symm.trans h
    refine am_iload F 1 dL_law_1984 rfl ?_
    refine am_if_ne F (tgt := 2001) dL_law_1986 (by decide) (fun c14 => ?_) (fun c14 => ?_)
    · have h := (if_neg c14).symm.trans h
      refine am_goto F (tgt := 2501) dL_law_2001 (by decide) ?_
      refine am_iinc F [(5, .int (a5 + (5 : Int32))), (7, .int v8), (6, .int v4), (0, .ref b), (1, .ref (z + 0)), (2, .ref (z + 174)), (3, .ref (z + 186)), (4, .ref (z + 187))] 7 dL_law_2501 (by decide) rfl rfl rfl ?_
      refine am_goto F (tgt := 28) dL_law_2504 (by decide) ?_
      exact am_sub (lv' := [(0, .ref b), (1, .ref (z + 0)), (2, .ref (z + 174)), (3, .ref (z + 186)), (4, .ref (z + 187)), (5, .int (a5 + (5 : Int32)))]) [3, 4, 5, 6, 7, 0] rfl (HR (a5 + (5 : Int32)) M10 (cl + 2) (sl + 12) (by omega) (by omega) h)
    · have h := (if_pos c14).symm.trans h
      refine am_aload_n F 5 dL_law_1989 rfl rfl ?_
      refine am_iconst F (v := (0 : Int32)) dL_law_1990 (by decide) ?_
      obtain ⟨q12, h⟩ := am_ciE h
      refine am_lald F lyk_186 q12 dL_law_1991 ?_
      refine am_iload F 0 dL_law_1992 rfl ?_
      refine am_i2l F dL_law_1994 ?_
      refine am_lcmp F dL_law_1995 ?_
      refine am_if_eq F (tgt := 2001) dL_law_1996 (by decide) (fun c13 => ?_) (fun c13 => ?_)
      · have h := (if_pos c13).symm.trans h
        refine am_goto F (tgt := 2501) dL_law_2001 (by decide) ?_
        refine am_iinc F [(5, .int (a5 + (5 : Int32))), (7, .int v8), (6, .int v4), (0, .ref b), (1, .ref (z + 0)), (2, .ref (z + 174)), (3, .ref (z + 186)), (4, .ref (z + 187))] 7 dL_law_2501 (by decide) rfl rfl rfl ?_
        refine am_goto F (tgt := 28) dL_law_2504 (by decide) ?_
        exact am_sub (lv' := [(0, .ref b), (1, .ref (z + 0)), (2, .ref (z + 174)), (3, .ref (z + 186)), (4, .ref (z + 187)), (5, .int (a5 + (5 : Int32)))]) [3, 4, 5, 6, 7, 0] rfl (HR (a5 + (5 : Int32)) M10 (cl + 2) (sl + 12) (by omega) (by omega) h)
      · have h := (if_neg c13).symm.trans h
        cases h
  · have h := (if_neg c15).symm.trans h
    cases h
def g_L_law_J2004 (xs : Nat → Int32) (L : Nat) (rc : Int32 → am_M → Option (Unit × am_M)) (a5 : Int32) (M : am_M) : Option (Unit × am_M) := (am_b (g_L_averageDelay  M) (fun v3 M2 => (am_b (g_X10_averageDelay  M2) (fun v6 M5 => (am_b (g_X10_thrown  M5) (fun v9 M8 => (if v9 = v3 then (if v3 = (0 : Int32) then (am_ci (0 : Int32) 1 (if (Op.cmpValue (FP.dcmp (am_dg M8 187 (0 : Int32).toNatClampNeg) v6) .l) = (0 : Int32) then (rc (a5 + (5 : Int32)) M8) else (am_ci (0 : Int32) 1 (am_ci (0 : Int32) 1 (if (Op.cmpValue (FP.dcmp (am_dg M8 187 (0 : Int32).toNatClampNeg) (am_dg M8 187 (0 : Int32).toNatClampNeg)) .l) = (0 : Int32) then none else (if (Op.cmpValue (FP.dcmp v6 v6) .l) = (0 : Int32) then none else (rc (a5 + (5 : Int32)) M8))))))) else (rc (a5 + (5 : Int32)) M8)) else none)))))))
set_option maxHeartbeats 4000000 in
set_option maxRecDepth 100000 in
theorem cj_L_law_J2004 {l : Launch} {p : Program} {e : Env} {s : State} {m : MethodId} {args : Array Value} {below : List Frame} {meth : Method} {c : Code} {Q : State → Prop} {D : va_G} {E : Nat → ClassId} {z b L : Nat} {xs : Nat → Int32} (F : am_F p s m args meth c cL_law 9 RL D E z) (hxs : va_X b L xs s s.heap) (hbl : b < s.heap.size) (hbz : ¬ z ≤ b) (hNC : am_NC s) (hls : l.stackTraces = false) (rc : Int32 → am_M → Option (Unit × am_M)) (a5 : Int32) (M M1 : am_M) (cl sl : Nat) (hc9 : cl + 10 ≤ 603072) (hs9 : sl + 60 ≤ 7198826) (h : g_L_law_J2004 xs L rc a5 M = some ((), M1)) (HR : ∀ (b5 : Int32) (M2 : am_M) (cl2 sl2 : Nat), cl2 ≤ cl + 10 → sl2 ≤ sl + 60 → rc b5 M2 = some ((), M1) → am_W p l e room_1 s m args below meth c Q 9 D E z cl2 sl2 M2 28 [(0, .ref b), (1, .ref (z + 0)), (2, .ref (z + 174)), (3, .ref (z + 186)), (4, .ref (z + 187)), (5, .int b5)] []) : am_W p l e room_1 s m args below meth c Q 9 D E z cl sl M 2004 [(0, .ref b), (1, .ref (z + 0)), (2, .ref (z + 174)), (3, .ref (z + 186)), (4, .ref (z + 187)), (5, .int a5)] [] := by
  unfold g_L_law_J2004 at h
  refine am_aload_n F 1 dL_law_2004 rfl rfl ?_
  refine am_aload F 4 dL_law_2005 rfl ?_
  obtain ⟨v3, M2, h1, h⟩ := am_bE h
  refine am_callL F hNC [.ref (z + 0), .ref (z + 187)] cs_L_236 (c_L_averageDelay l hls D E z  M v3 M2 h1) yn_L_averageDelay rfl ⟨Nat.le_of_ble_eq_true rfl, Nat.le_of_ble_eq_true rfl⟩ rfl rfl (Nat.le_of_ble_eq_true rfl) ⟨(show cl + 1 ≤ 603072 by omega), (show sl + 6 ≤ 7198826 by omega)⟩ dL_law_2007 rfl ?_
  refine am_istore F [(6, .int v3), (0, .ref b), (1, .ref (z + 0)), (2, .ref (z + 174)), (3, .ref (z + 186)), (4, .ref (z + 187)), (5, .int a5)] dL_law_2010 (by decide) rfl ?_
  refine am_aload_n F 3 dL_law_2012 rfl rfl ?_
  obtain ⟨v6, M5, h4, h⟩ := am_bE h
  refine am_callVd F [] lyk_174 (by decide) rfl cv_L_239 (c_X10_averageDelay l D E z  M2 v6 M5 h4) yn_X10_averageDelay rfl ⟨Nat.le_of_ble_eq_true rfl, Nat.le_of_ble_eq_true rfl⟩ rfl rfl (Nat.le_of_ble_eq_true rfl) ⟨(show cl + 1 ≤ 603072 by omega), (show sl + 6 ≤ 7198826 by omega)⟩ dL_law_2013 rfl ?_
  refine am_dstore F [(7, .double v6), (6, .int v3), (0, .ref b), (1, .ref (z + 0)), (2, .ref (z + 174)), (3, .ref (z + 186)), (4, .ref (z + 187)), (5, .int a5)] dL_law_2016 (by decide) rfl ?_
  refine am_aload_n F 4 dL_law_2018 rfl rfl ?_
  obtain ⟨v9, M8, h7, h⟩ := am_bE h
  refine am_callVi F [] lyk_174 (by decide) rfl cv_L_148 (c_X10_thrown l D E z  M5 v9 M8 h7) yn_X10_thrown rfl ⟨Nat.le_of_ble_eq_true rfl, Nat.le_of_ble_eq_true rfl⟩ rfl rfl (Nat.le_of_ble_eq_true rfl) ⟨(show cl + 1 ≤ 603072 by omega), (show sl + 6 ≤ 7198826 by omega)⟩ dL_law_2019 rfl ?_
  refine am_iload F 1 dL_law_2022 rfl ?_
  refine am_icmp_eq F (tgt := 2029) dL_law_2024 (by decide) (fun c17 => ?_) (fun c17 => ?_)
  · have h := (if_pos c17).symm.trans h
    refine am_iload F 1 dL_law_2029 rfl ?_
    refine am_if_ne F (tgt := 2066) dL_law_2031 (by decide) (fun c16 => ?_) (fun c16 => ?_)
    · have h := (if_neg c16).symm.trans h
      refine am_goto F (tgt := 2501) dL_law_2066 (by decide) ?_
      refine am_iinc F [(5, .int (a5 + (5 : Int32))), (7, .double v6), (6, .int v3), (0, .ref b), (1, .ref (z + 0)), (2, .ref (z + 174)), (3, .ref (z + 186)), (4, .ref (z + 187))] 7 dL_law_2501 (by decide) rfl rfl rfl ?_
      refine am_goto F (tgt := 28) dL_law_2504 (by decide) ?_
      exact am_sub (lv' := [(0, .ref b), (1, .ref (z + 0)), (2, .ref (z + 174)), (3, .ref (z + 186)), (4, .ref (z + 187)), (5, .int (a5 + (5 : Int32)))]) [3, 4, 5, 6, 7, 0] rfl (HR (a5 + (5 : Int32)) M8 (cl + 1) (sl + 6) (by omega) (by omega) h)
    · have h := (if_pos c16).symm.trans h
      refine am_aload F 6 dL_law_2034 rfl ?_
      refine am_iconst F (v := (0 : Int32)) dL_law_2036 (by decide) ?_
      obtain ⟨q10, h⟩ := am_ciE h
      refine am_dald F lyk_187 q10 dL_law_2037 ?_
      refine am_dload F 0 dL_law_2038 rfl ?_
      refine am_dcmp F dL_law_2040 ?_
      refine am_if_eq F (tgt := 2066) dL_law_2041 (by decide) (fun c15 => ?_) (fun c15 => ?_)
      · have h := (if_pos c15).symm.trans h
        refine am_goto F (tgt := 2501) dL_law_2066 (by decide) ?_
        refine am_iinc F [(5, .int (a5 + (5 : Int32))), (7, .double v6), (6, .int v3), (0, .ref b), (1, .ref (z + 0)), (2, .ref (z + 174)), (3, .ref (z + 186)), (4, .ref (z + 187))] 7 dL_law_2501 (by decide) rfl rfl rfl ?_
        refine am_goto F (tgt := 28) dL_law_2504 (by decide) ?_
        exact am_sub (lv' := [(0, .ref b), (1, .ref (z + 0)), (2, .ref (z + 174)), (3, .ref (z + 186)), (4, .ref (z + 187)), (5, .int (a5 + (5 : Int32)))]) [3, 4, 5, 6, 7, 0] rfl (HR (a5 + (5 : Int32)) M8 (cl + 1) (sl + 6) (by omega) (by omega) h)
      · have h := (if_neg c15).symm.trans h
        refine am_aload F 6 dL_law_2044 rfl ?_
        refine am_iconst F (v := (0 : Int32)) dL_law_2046 (by decide) ?_
        obtain ⟨q11, h⟩ := am_ciE h
        refine am_dald F lyk_187 q11 dL_law_2047 ?_
        refine am_aload F 6 dL_law_2048 rfl ?_
        refine am_iconst F (v := (0 : Int32)) dL_law_2050 (by decide) ?_
        obtain ⟨q12, h⟩ := am_ciE h
        refine am_dald F lyk_187 q12 dL_law_2051 ?_
        refine am_dcmp F dL_law_2052 ?_
        refine am_if_eq F (tgt := 2064) dL_law_2053 (by decide) (fun c14 => ?_) (fun c14 => ?_)
        · have h := (if_pos c14).symm.trans h
          cases h
        · have h := (if_neg c14).symm.trans h
          refine am_dload F 0 dL_law_2056 rfl ?_
          refine am_dload F 0 dL_law_2058 rfl ?_
          refine am_dcmp F dL_law_2060 ?_
          refine am_if_ne F (tgt := 2066) dL_law_2061 (by decide) (fun c13 => ?_) (fun c13 => ?_)
          · have h := (if_neg c13).symm.trans h
            refine am_goto F (tgt := 2501) dL_law_2066 (by decide) ?_
            refine am_iinc F [(5, .int (a5 + (5 : Int32))), (7, .double v6), (6, .int v3), (0, .ref b), (1, .ref (z + 0)), (2, .ref (z + 174)), (3, .ref (z + 186)), (4, .ref (z + 187))] 7 dL_law_2501 (by decide) rfl rfl rfl ?_
            refine am_goto F (tgt := 28) dL_law_2504 (by decide) ?_
            exact am_sub (lv' := [(0, .ref b), (1, .ref (z + 0)), (2, .ref (z + 174)), (3, .ref (z + 186)), (4, .ref (z + 187)), (5, .int (a5 + (5 : Int32)))]) [3, 4, 5, 6, 7, 0] rfl (HR (a5 + (5 : Int32)) M8 (cl + 1) (sl + 6) (by omega) (by omega) h)
          · have h := (if_pos c13).symm.trans h
            cases h
  · have h := (if_neg c17).symm.trans h
    cases h
def g_L_law_J2069 (xs : Nat → Int32) (L : Nat) (rc : Int32 → am_M → Option (Unit × am_M)) (a5 : Int32) (M : am_M) : Option (Unit × am_M) := (am_ci (a5 + (1 : Int32)) L (am_b (g_L_visits (xs (a5 + (1 : Int32)).toNatClampNeg) M) (fun v4 M3 => (am_ci (a5 + (1 : Int32)) L (am_b (g_X10_visits (xs (a5 + (1 : Int32)).toNatClampNeg) M3) (fun v8 M7 => (am_b (g_X10_thrown  M7) (fun v11 M10 => (if v11 = v4 then (if v4 = (0 : Int32) then (am_ci (0 : Int32) 1 (if (lg_cmp (am_lg M10 186 (0 : Int32).toNatClampNeg) (v8.toInt64)) = (0 : Int32) then (rc (a5 + (5 : Int32)) M10) else none)) else (rc (a5 + (5 : Int32)) M10)) else none)))))))))
set_option maxHeartbeats 4000000 in
set_option maxRecDepth 100000 in
theorem cj_L_law_J2069 {l : Launch} {p : Program} {e : Env} {s : State} {m : MethodId} {args : Array Value} {below : List Frame} {meth : Method} {c : Code} {Q : State → Prop} {D : va_G} {E : Nat → ClassId} {z b L : Nat} {xs : Nat → Int32} (F : am_F p s m args meth c cL_law 9 RL D E z) (hxs : va_X b L xs s s.heap) (hbl : b < s.heap.size) (hbz : ¬ z ≤ b) (hNC : am_NC s) (hls : l.stackTraces = false) (rc : Int32 → am_M → Option (Unit × am_M)) (a5 : Int32) (M M1 : am_M) (cl sl : Nat) (hc9 : cl + 10 ≤ 603072) (hs9 : sl + 60 ≤ 7198826) (h : g_L_law_J2069 xs L rc a5 M = some ((), M1)) (HR : ∀ (b5 : Int32) (M2 : am_M) (cl2 sl2 : Nat), cl2 ≤ cl + 10 → sl2 ≤ sl + 60 → rc b5 M2 = some ((), M1) → am_W p l e room_1 s m args below meth c Q 9 D E z cl2 sl2 M2 28 [(0, .ref b), (1, .ref (z + 0)), (2, .ref (z + 174)), (3, .ref (z + 186)), (4, .ref (z + 187)), (5, .int b5)] []) : am_W p l e room_1 s m args below meth c Q 9 D E z cl sl M 2069 [(0, .ref b), (1, .ref (z + 0)), (2, .ref (z + 174)), (3, .ref (z + 186)), (4, .ref (z + 187)), (5, .int a5)] [] := by
  unfold g_L_law_J2069 at h
  refine am_aload_n F 1 dL_law_2069 rfl rfl ?_
  refine am_aload_n F 0 dL_law_2070 rfl rfl ?_
  refine am_iload F 5 dL_law_2071 rfl ?_
  refine am_iconst F (v := (1 : Int32)) dL_law_2073 (by decide) ?_
  refine am_iadd F dL_law_2074 ?_
  obtain ⟨q1, h⟩ := am_ciE h
  refine am_sld F hxs hbl hbz q1 dL_law_2075 ?_
  refine am_aload_n F 3 dL_law_2076 rfl rfl ?_
  obtain ⟨v4, M3, h2, h⟩ := am_bE h
  refine am_callL F hNC [.ref (z + 0), .int (xs (a5 + (1 : Int32)).toNatClampNeg), .ref (z + 186)] cs_L_240 (c_L_visits l hls D E z (xs (a5 + (1 : Int32)).toNatClampNeg) M v4 M3 h2) yn_L_visits rfl ⟨Nat.le_of_ble_eq_true rfl, Nat.le_of_ble_eq_true rfl⟩ rfl rfl (Nat.le_of_ble_eq_true rfl) ⟨(show cl + 1 ≤ 603072 by omega), (show sl + 6 ≤ 7198826 by omega)⟩ dL_law_2077 rfl ?_
  refine am_istore F [(6, .int v4), (0, .ref b), (1, .ref (z + 0)), (2, .ref (z + 174)), (3, .ref (z + 186)), (4, .ref (z + 187)), (5, .int a5)] dL_law_2080 (by decide) rfl ?_
  refine am_aload_n F 3 dL_law_2082 rfl rfl ?_
  refine am_aload_n F 1 dL_law_2083 rfl rfl ?_
  refine am_iload F 6 dL_law_2084 rfl ?_
  refine am_iconst F (v := (1 : Int32)) dL_law_2086 (by decide) ?_
  refine am_iadd F dL_law_2087 ?_
  obtain ⟨q5, h⟩ := am_ciE h
  refine am_sld F hxs hbl hbz q5 dL_law_2088 ?_
  obtain ⟨v8, M7, h6, h⟩ := am_bE h
  refine am_callVi F [.int (xs (a5 + (1 : Int32)).toNatClampNeg)] lyk_174 (by decide) rfl cv_L_242 (c_X10_visits l D E z (xs (a5 + (1 : Int32)).toNatClampNeg) M3 v8 M7 h6) yn_X10_visits rfl ⟨Nat.le_of_ble_eq_true rfl, Nat.le_of_ble_eq_true rfl⟩ rfl rfl (Nat.le_of_ble_eq_true rfl) ⟨(show cl + 1 ≤ 603072 by omega), (show sl + 6 ≤ 7198826 by omega)⟩ dL_law_2089 rfl ?_
  refine am_istore F [(7, .int v8), (6, .int v4), (0, .ref b), (1, .ref (z + 0)), (2, .ref (z + 174)), (3, .ref (z + 186)), (4, .ref (z + 187)), (5, .int a5)] dL_law_2092 (by decide) rfl ?_
  refine am_aload_n F 4 dL_law_2094 rfl rfl ?_
  obtain ⟨v11, M10, h9, h⟩ := am_bE h
  refine am_callVi F [] lyk_174 (by decide) rfl cv_L_148 (c_X10_thrown l D E z  M7 v11 M10 h9) yn_X10_thrown rfl ⟨Nat.le_of_ble_eq_true rfl, Nat.le_of_ble_eq_true rfl⟩ rfl rfl (Nat.le_of_ble_eq_true rfl) ⟨(show cl + 1 ≤ 603072 by omega), (show sl + 6 ≤ 7198826 by omega)⟩ dL_law_2095 rfl ?_
  refine am_iload F 1 dL_law_2098 rfl ?_
  refine am_icmp_eq F (tgt := 2105) dL_law_2100 (by decide) (fun c15 => ?_) (fun c15 => ?_)
  · have h := (if_pos c15).symm.trans h
    refine am_iload F 1 dL_law_2105 rfl ?_
    refine am_if_ne F (tgt := 2122) dL_law_2107 (by decide) (fun c14 => ?_) (fun c14 => ?_)
    · have h := (if_neg c14).symm.trans h
      refine am_goto F (tgt := 2501) dL_law_2122 (by decide) ?_
      refine am_iinc F [(5, .int (a5 + (5 : Int32))), (7, .int v8), (6, .int v4), (0, .ref b), (1, .ref (z + 0)), (2, .ref (z + 174)), (3, .ref (z + 186)), (4, .ref (z + 187))] 7 dL_law_2501 (by decide) rfl rfl rfl ?_
      refine am_goto F (tgt := 28) dL_law_2504 (by decide) ?_
      exact am_sub (lv' := [(0, .ref b), (1, .ref (z + 0)), (2, .ref (z + 174)), (3, .ref (z + 186)), (4, .ref (z + 187)), (5, .int (a5 + (5 : Int32)))]) [3, 4, 5, 6, 7, 0] rfl (HR (a5 + (5 : Int32)) M10 (cl + 1) (sl + 6) (by omega) (by omega) h)
    · have h := (if_pos c14).symm.trans h
      refine am_aload_n F 5 dL_law_2110 rfl rfl ?_
      refine am_iconst F (v := (0 : Int32)) dL_law_2111 (by decide) ?_
      obtain ⟨q12, h⟩ := am_ciE h
      refine am_lald F lyk_186 q12 dL_law_2112 ?_
      refine am_iload F 0 dL_law_2113 rfl ?_
      refine am_i2l F dL_law_2115 ?_
      refine am_lcmp F dL_law_2116 ?_
      refine am_if_eq F (tgt := 2122) dL_law_2117 (by decide) (fun c13 => ?_) (fun c13 => ?_)
      · have h := (if_pos c13).symm.trans h
        refine am_goto F (tgt := 2501) dL_law_2122 (by decide) ?_
        refine am_iinc F [(5, .int (a5 + (5 : Int32))), (7, .int v8), (6, .int v4), (0, .ref b), (1, .ref (z + 0)), (2, .ref (z + 174)), (3, .ref (z + 186)), (4, .ref (z + 187))] 7 dL_law_2501 (by decide) rfl rfl rfl ?_
        refine am_goto F (tgt := 28) dL_law_2504 (by decide) ?_
        exact am_sub (lv' := [(0, .ref b), (1, .ref (z + 0)), (2, .ref (z + 174)), (3, .ref (z + 186)), (4, .ref (z + 187)), (5, .int (a5 + (5 : Int32)))]) [3, 4, 5, 6, 7, 0] rfl (HR (a5 + (5 : Int32)) M10 (cl + 1) (sl + 6) (by omega) (by omega) h)
      · have h := (if_neg c13).symm.trans h
        cases h
  · have h := (if_neg c15).symm.trans h
    cases h
def g_L_law_J2125 (xs : Nat → Int32) (L : Nat) (rc : Int32 → am_M → Option (Unit × am_M)) (a5 : Int32) (M : am_M) : Option (Unit × am_M) := (am_b (g_X9_busiestCell  M) (fun v3 M2 => (am_b (g_X10_busiestCell  M2) (fun v6 M5 => (if v3 = v6 then (rc (a5 + (5 : Int32)) M5) else none)))))
set_option maxHeartbeats 4000000 in
set_option maxRecDepth 100000 in
theorem cj_L_law_J2125 {l : Launch} {p : Program} {e : Env} {s : State} {m : MethodId} {args : Array Value} {below : List Frame} {meth : Method} {c : Code} {Q : State → Prop} {D : va_G} {E : Nat → ClassId} {z b L : Nat} {xs : Nat → Int32} (F : am_F p s m args meth c cL_law 9 RL D E z) (hxs : va_X b L xs s s.heap) (hbl : b < s.heap.size) (hbz : ¬ z ≤ b) (hNC : am_NC s) (hls : l.stackTraces = false) (rc : Int32 → am_M → Option (Unit × am_M)) (a5 : Int32) (M M1 : am_M) (cl sl : Nat) (hc9 : cl + 10 ≤ 603072) (hs9 : sl + 60 ≤ 7198826) (h : g_L_law_J2125 xs L rc a5 M = some ((), M1)) (HR : ∀ (b5 : Int32) (M2 : am_M) (cl2 sl2 : Nat), cl2 ≤ cl + 10 → sl2 ≤ sl + 60 → rc b5 M2 = some ((), M1) → am_W p l e room_1 s m args below meth c Q 9 D E z cl2 sl2 M2 28 [(0, .ref b), (1, .ref (z + 0)), (2, .ref (z + 174)), (3, .ref (z + 186)), (4, .ref (z + 187)), (5, .int b5)] []) : am_W p l e room_1 s m args below meth c Q 9 D E z cl sl M 2125 [(0, .ref b), (1, .ref (z + 0)), (2, .ref (z + 174)), (3, .ref (z + 186)), (4, .ref (z + 187)), (5, .int a5)] [] := by
  unfold g_L_law_J2125 at h
  refine am_aload_n F 1 dL_law_2125 rfl rfl ?_
  obtain ⟨v3, M2, h1, h⟩ := am_bE h
  refine am_callVi F [] lyk_0 (by decide) rfl cv_L_243 (c_X9_busiestCell l D E z  M v3 M2 h1) yn_X9_busiestCell rfl ⟨Nat.le_of_ble_eq_true rfl, Nat.le_of_ble_eq_true rfl⟩ rfl rfl (Nat.le_of_ble_eq_true rfl) ⟨(show cl ≤ 603072 by omega), (show sl ≤ 7198826 by omega)⟩ dL_law_2126 rfl ?_
  refine am_aload_n F 2 dL_law_2129 rfl rfl ?_
  obtain ⟨v6, M5, h4, h⟩ := am_bE h
  refine am_callVi F [] lyk_174 (by decide) rfl cv_L_246 (c_X10_busiestCell l D E z  M2 v6 M5 h4) yn_X10_busiestCell rfl ⟨Nat.le_of_ble_eq_true rfl, Nat.le_of_ble_eq_true rfl⟩ rfl rfl (Nat.le_of_ble_eq_true rfl) ⟨(show cl ≤ 603072 by omega), (show sl ≤ 7198826 by omega)⟩ dL_law_2130 rfl ?_
  refine am_icmp_eq F (tgt := 2501) dL_law_2133 (by decide) (fun c7 => ?_) (fun c7 => ?_)
  · have h := (if_pos c7).symm.trans h
    refine am_iinc F [(5, .int (a5 + (5 : Int32))), (0, .ref b), (1, .ref (z + 0)), (2, .ref (z + 174)), (3, .ref (z + 186)), (4, .ref (z + 187))] 5 dL_law_2501 (by decide) rfl rfl rfl ?_
    refine am_goto F (tgt := 28) dL_law_2504 (by decide) ?_
    exact am_sub (lv' := [(0, .ref b), (1, .ref (z + 0)), (2, .ref (z + 174)), (3, .ref (z + 186)), (4, .ref (z + 187)), (5, .int (a5 + (5 : Int32)))]) [1, 2, 3, 4, 5, 0] rfl (HR (a5 + (5 : Int32)) M5 cl sl (by omega) (by omega) h)
  · have h := (if_neg c7).symm.trans h
    cases h
def g_L_law_J2138 (xs : Nat → Int32) (L : Nat) (rc : Int32 → am_M → Option (Unit × am_M)) (a5 : Int32) (M : am_M) : Option (Unit × am_M) := (am_ci (a5 + (1 : Int32)) L (am_ci (a5 + (2 : Int32)) L (am_ci (a5 + (3 : Int32)) L (am_b (g_L_sample (xs (a5 + (1 : Int32)).toNatClampNeg) (xs (a5 + (2 : Int32)).toNatClampNeg) (xs (a5 + (3 : Int32)).toNatClampNeg) M) (fun v6 M5 => (am_ci (a5 + (1 : Int32)) L (am_ci (a5 + (2 : Int32)) L (am_ci (a5 + (3 : Int32)) L (am_b (g_X10_sample (xs (a5 + (1 : Int32)).toNatClampNeg) (xs (a5 + (2 : Int32)).toNatClampNeg) (xs (a5 + (3 : Int32)).toNatClampNeg) M5) (fun v12 M11 => (am_b (g_X10_thrown  M11) (fun v15 M14 => (if v15 = v6 then (if v6 = (0 : Int32) then (am_ci (0 : Int32) 1 (if (lg_cmp (am_lg M14 186 (0 : Int32).toNatClampNeg) (v12.toInt64)) = (0 : Int32) then (rc (a5 + (5 : Int32)) M14) else none)) else (rc (a5 + (5 : Int32)) M14)) else none)))))))))))))
set_option maxHeartbeats 4000000 in
set_option maxRecDepth 100000 in
theorem cj_L_law_J2138 {l : Launch} {p : Program} {e : Env} {s : State} {m : MethodId} {args : Array Value} {below : List Frame} {meth : Method} {c : Code} {Q : State → Prop} {D : va_G} {E : Nat → ClassId} {z b L : Nat} {xs : Nat → Int32} (F : am_F p s m args meth c cL_law 9 RL D E z) (hxs : va_X b L xs s s.heap) (hbl : b < s.heap.size) (hbz : ¬ z ≤ b) (hNC : am_NC s) (hls : l.stackTraces = false) (rc : Int32 → am_M → Option (Unit × am_M)) (a5 : Int32) (M M1 : am_M) (cl sl : Nat) (hc9 : cl + 10 ≤ 603072) (hs9 : sl + 60 ≤ 7198826) (h : g_L_law_J2138 xs L rc a5 M = some ((), M1)) (HR : ∀ (b5 : Int32) (M2 : am_M) (cl2 sl2 : Nat), cl2 ≤ cl + 10 → sl2 ≤ sl + 60 → rc b5 M2 = some ((), M1) → am_W p l e room_1 s m args below meth c Q 9 D E z cl2 sl2 M2 28 [(0, .ref b), (1, .ref (z + 0)), (2, .ref (z + 174)), (3, .ref (z + 186)), (4, .ref (z + 187)), (5, .int b5)] []) : am_W p l e room_1 s m args below meth c Q 9 D E z cl sl M 2138 [(0, .ref b), (1, .ref (z + 0)), (2, .ref (z + 174)), (3, .ref (z + 186)), (4, .ref (z + 187)), (5, .int a5)] [] := by
  unfold g_L_law_J2138 at h
  refine am_aload_n F 1 dL_law_2138 rfl rfl ?_
  refine am_aload_n F 0 dL_law_2139 rfl rfl ?_
  refine am_iload F 5 dL_law_2140 rfl ?_
  refine am_iconst F (v := (1 : Int32)) dL_law_2142 (by decide) ?_
  refine am_iadd F dL_law_2143 ?_
  obtain ⟨q1, h⟩ := am_ciE h
  refine am_sld F hxs hbl hbz q1 dL_law_2144 ?_
  refine am_aload_n F 0 dL_law_2145 rfl rfl ?_
  refine am_iload F 5 dL_law_2146 rfl ?_
  refine am_iconst F (v := (2 : Int32)) dL_law_2148 (by decide) ?_
  refine am_iadd F dL_law_2149 ?_
  obtain ⟨q2, h⟩ := am_ciE h
  refine am_sld F hxs hbl hbz q2 dL_law_2150 ?_
  refine am_aload_n F 0 dL_law_2151 rfl rfl ?_
  refine am_iload F 5 dL_law_2152 rfl ?_
  refine am_iconst F (v := (3 : Int32)) dL_law_2154 (by decide) ?_
  refine am_iadd F dL_law_2155 ?_
  obtain ⟨q3, h⟩ := am_ciE h
  refine am_sld F hxs hbl hbz q3 dL_law_2156 ?_
  refine am_aload_n F 3 dL_law_2157 rfl rfl ?_
  obtain ⟨v6, M5, h4, h⟩ := am_bE h
  refine am_callL F hNC [.ref (z + 0), .int (xs (a5 + (1 : Int32)).toNatClampNeg), .int (xs (a5 + (2 : Int32)).toNatClampNeg), .int (xs (a5 + (3 : Int32)).toNatClampNeg), .ref (z + 186)] cs_L_247 (c_L_sample l hls D E z (xs (a5 + (1 : Int32)).toNatClampNeg) (xs (a5 + (2 : Int32)).toNatClampNeg) (xs (a5 + (3 : Int32)).toNatClampNeg) M v6 M5 h4) yn_L_sample rfl ⟨Nat.le_of_ble_eq_true rfl, Nat.le_of_ble_eq_true rfl⟩ rfl rfl (Nat.le_of_ble_eq_true rfl) ⟨(show cl + 3 ≤ 603072 by omega), (show sl + 18 ≤ 7198826 by omega)⟩ dL_law_2158 rfl ?_
  refine am_istore F [(6, .int v6), (0, .ref b), (1, .ref (z + 0)), (2, .ref (z + 174)), (3, .ref (z + 186)), (4, .ref (z + 187)), (5, .int a5)] dL_law_2161 (by decide) rfl ?_
  refine am_aload_n F 3 dL_law_2163 rfl rfl ?_
  refine am_aload_n F 1 dL_law_2164 rfl rfl ?_
  refine am_iload F 6 dL_law_2165 rfl ?_
  refine am_iconst F (v := (1 : Int32)) dL_law_2167 (by decide) ?_
  refine am_iadd F dL_law_2168 ?_
  obtain ⟨q7, h⟩ := am_ciE h
  refine am_sld F hxs hbl hbz q7 dL_law_2169 ?_
  refine am_aload_n F 1 dL_law_2170 rfl rfl ?_
  refine am_iload F 6 dL_law_2171 rfl ?_
  refine am_iconst F (v := (2 : Int32)) dL_law_2173 (by decide) ?_
  refine am_iadd F dL_law_2174 ?_
  obtain ⟨q8, h⟩ := am_ciE h
  refine am_sld F hxs hbl hbz q8 dL_law_2175 ?_
  refine am_aload_n F 1 dL_law_2176 rfl rfl ?_
  refine am_iload F 6 dL_law_2177 rfl ?_
  refine am_iconst F (v := (3 : Int32)) dL_law_2179 (by decide) ?_
  refine am_iadd F dL_law_2180 ?_
  obtain ⟨q9, h⟩ := am_ciE h
  refine am_sld F hxs hbl hbz q9 dL_law_2181 ?_
  obtain ⟨v12, M11, h10, h⟩ := am_bE h
  refine am_callVi F [.int (xs (a5 + (1 : Int32)).toNatClampNeg), .int (xs (a5 + (2 : Int32)).toNatClampNeg), .int (xs (a5 + (3 : Int32)).toNatClampNeg)] lyk_174 (by decide) rfl cv_L_250 (c_X10_sample l D E z (xs (a5 + (1 : Int32)).toNatClampNeg) (xs (a5 + (2 : Int32)).toNatClampNeg) (xs (a5 + (3 : Int32)).toNatClampNeg) M5 v12 M11 h10) yn_X10_sample rfl ⟨Nat.le_of_ble_eq_true rfl, Nat.le_of_ble_eq_true rfl⟩ rfl rfl (Nat.le_of_ble_eq_true rfl) ⟨(show cl + 3 ≤ 603072 by omega), (show sl + 18 ≤ 7198826 by omega)⟩ dL_law_2182 rfl ?_
  refine am_istore F [(7, .int v12), (6, .int v6), (0, .ref b), (1, .ref (z + 0)), (2, .ref (z + 174)), (3, .ref (z + 186)), (4, .ref (z + 187)), (5, .int a5)] dL_law_2185 (by decide) rfl ?_
  refine am_aload_n F 4 dL_law_2187 rfl rfl ?_
  obtain ⟨v15, M14, h13, h⟩ := am_bE h
  refine am_callVi F [] lyk_174 (by decide) rfl cv_L_148 (c_X10_thrown l D E z  M11 v15 M14 h13) yn_X10_thrown rfl ⟨Nat.le_of_ble_eq_true rfl, Nat.le_of_ble_eq_true rfl⟩ rfl rfl (Nat.le_of_ble_eq_true rfl) ⟨(show cl + 3 ≤ 603072 by omega), (show sl + 18 ≤ 7198826 by omega)⟩ dL_law_2188 rfl ?_
  refine am_iload F 1 dL_law_2191 rfl ?_
  refine am_icmp_eq F (tgt := 2198) dL_law_2193 (by decide) (fun c19 => ?_) (fun c19 => ?_)
  · have h := (if_pos c19).symm.trans h
    refine am_iload F 1 dL_law_2198 rfl ?_
    refine am_if_ne F (tgt := 2215) dL_law_2200 (by decide) (fun c18 => ?_) (fun c18 => ?_)
    · have h := (if_neg c18).symm.trans h
      refine am_goto F (tgt := 2501) dL_law_2215 (by decide) ?_
      refine am_iinc F [(5, .int (a5 + (5 : Int32))), (7, .int v12), (6, .int v6), (0, .ref b), (1, .ref (z + 0)), (2, .ref (z + 174)), (3, .ref (z + 186)), (4, .ref (z + 187))] 7 dL_law_2501 (by decide) rfl rfl rfl ?_
      refine am_goto F (tgt := 28) dL_law_2504 (by decide) ?_
      exact am_sub (lv' := [(0, .ref b), (1, .ref (z + 0)), (2, .ref (z + 174)), (3, .ref (z + 186)), (4, .ref (z + 187)), (5, .int (a5 + (5 : Int32)))]) [3, 4, 5, 6, 7, 0] rfl (HR (a5 + (5 : Int32)) M14 (cl + 3) (sl + 18) (by omega) (by omega) h)
    · have h := (if_pos c18).symm.trans h
      refine am_aload_n F 5 dL_law_2203 rfl rfl ?_
      refine am_iconst F (v := (0 : Int32)) dL_law_2204 (by decide) ?_
      obtain ⟨q16, h⟩ := am_ciE h
      refine am_lald F lyk_186 q16 dL_law_2205 ?_
      refine am_iload F 0 dL_law_2206 rfl ?_
      refine am_i2l F dL_law_2208 ?_
      refine am_lcmp F dL_law_2209 ?_
      refine am_if_eq F (tgt := 2215) dL_law_2210 (by decide) (fun c17 => ?_) (fun c17 => ?_)
      · have h := (if_pos c17).symm.trans h
        refine am_goto F (tgt := 2501) dL_law_2215 (by decide) ?_
        refine am_iinc F [(5, .int (a5 + (5 : Int32))), (7, .int v12), (6, .int v6), (0, .ref b), (1, .ref (z + 0)), (2, .ref (z + 174)), (3, .ref (z + 186)), (4, .ref (z + 187))] 7 dL_law_2501 (by decide) rfl rfl rfl ?_
        refine am_goto F (tgt := 28) dL_law_2504 (by decide) ?_
        exact am_sub (lv' := [(0, .ref b), (1, .ref (z + 0)), (2, .ref (z + 174)), (3, .ref (z + 186)), (4, .ref (z + 187)), (5, .int (a5 + (5 : Int32)))]) [3, 4, 5, 6, 7, 0] rfl (HR (a5 + (5 : Int32)) M14 (cl + 3) (sl + 18) (by omega) (by omega) h)
      · have h := (if_neg c17).symm.trans h
        cases h
  · have h := (if_neg c19).symm.trans h
    cases h
def g_L_law_J2218 (xs : Nat → Int32) (L : Nat) (rc : Int32 → am_M → Option (Unit × am_M)) (a5 : Int32) (M : am_M) : Option (Unit × am_M) := (am_ci (a5 + (1 : Int32)) L (am_ci (a5 + (2 : Int32)) L (am_ci (a5 + (3 : Int32)) L (am_b (g_L_sampled (xs (a5 + (1 : Int32)).toNatClampNeg) (xs (a5 + (2 : Int32)).toNatClampNeg) (xs (a5 + (3 : Int32)).toNatClampNeg) M) (fun v6 M5 => (am_ci (a5 + (1 : Int32)) L (am_ci (a5 + (2 : Int32)) L (am_ci (a5 + (3 : Int32)) L (am_b (g_X10_sampled (xs (a5 + (1 : Int32)).toNatClampNeg) (xs (a5 + (2 : Int32)).toNatClampNeg) (xs (a5 + (3 : Int32)).toNatClampNeg) M5) (fun v12 M11 => (am_b (g_X10_thrown  M11) (fun v15 M14 => (if v15 = v6 then (if v6 = (0 : Int32) then (am_ci (0 : Int32) 1 (if (lg_cmp (am_lg M14 186 (0 : Int32).toNatClampNeg) (v12.toInt64)) = (0 : Int32) then (rc (a5 + (5 : Int32)) M14) else none)) else (rc (a5 + (5 : Int32)) M14)) else none)))))))))))))
set_option maxHeartbeats 4000000 in
set_option maxRecDepth 100000 in
theorem cj_L_law_J2218 {l : Launch} {p : Program} {e : Env} {s : State} {m : MethodId} {args : Array Value} {below : List Frame} {meth : Method} {c : Code} {Q : State → Prop} {D : va_G} {E : Nat → ClassId} {z b L : Nat} {xs : Nat → Int32} (F : am_F p s m args meth c cL_law 9 RL D E z) (hxs : va_X b L xs s s.heap) (hbl : b < s.heap.size) (hbz : ¬ z ≤ b) (hNC : am_NC s) (hls : l.stackTraces = false) (rc : Int32 → am_M → Option (Unit × am_M)) (a5 : Int32) (M M1 : am_M) (cl sl : Nat) (hc9 : cl + 10 ≤ 603072) (hs9 : sl + 60 ≤ 7198826) (h : g_L_law_J2218 xs L rc a5 M = some ((), M1)) (HR : ∀ (b5 : Int32) (M2 : am_M) (cl2 sl2 : Nat), cl2 ≤ cl + 10 → sl2 ≤ sl + 60 → rc b5 M2 = some ((), M1) → am_W p l e room_1 s m args below meth c Q 9 D E z cl2 sl2 M2 28 [(0, .ref b), (1, .ref (z + 0)), (2, .ref (z + 174)), (3, .ref (z + 186)), (4, .ref (z + 187)), (5, .int b5)] []) : am_W p l e room_1 s m args below meth c Q 9 D E z cl sl M 2218 [(0, .ref b), (1, .ref (z + 0)), (2, .ref (z + 174)), (3, .ref (z + 186)), (4, .ref (z + 187)), (5, .int a5)] [] := by
  unfold g_L_law_J2218 at h
  refine am_aload_n F 1 dL_law_2218 rfl rfl ?_
  refine am_aload_n F 0 dL_law_2219 rfl rfl ?_
  refine am_iload F 5 dL_law_2220 rfl ?_
  refine am_iconst F (v := (1 : Int32)) dL_law_2222 (by decide) ?_
  refine am_iadd F dL_law_2223 ?_
  obtain ⟨q1, h⟩ := am_ciE h
  refine am_sld F hxs hbl hbz q1 dL_law_2224 ?_
  refine am_aload_n F 0 dL_law_2225 rfl rfl ?_
  refine am_iload F 5 dL_law_2226 rfl ?_
  refine am_iconst F (v := (2 : Int32)) dL_law_2228 (by decide) ?_
  refine am_iadd F dL_law_2229 ?_
  obtain ⟨q2, h⟩ := am_ciE h
  refine am_sld F hxs hbl hbz q2 dL_law_2230 ?_
  refine am_aload_n F 0 dL_law_2231 rfl rfl ?_
  refine am_iload F 5 dL_law_2232 rfl ?_
  refine am_iconst F (v := (3 : Int32)) dL_law_2234 (by decide) ?_
  refine am_iadd F dL_law_2235 ?_
  obtain ⟨q3, h⟩ := am_ciE h
  refine am_sld F hxs hbl hbz q3 dL_law_2236 ?_
  refine am_aload_n F 3 dL_law_2237 rfl rfl ?_
  obtain ⟨v6, M5, h4, h⟩ := am_bE h
  refine am_callL F hNC [.ref (z + 0), .int (xs (a5 + (1 : Int32)).toNatClampNeg), .int (xs (a5 + (2 : Int32)).toNatClampNeg), .int (xs (a5 + (3 : Int32)).toNatClampNeg), .ref (z + 186)] cs_L_251 (c_L_sampled l hls D E z (xs (a5 + (1 : Int32)).toNatClampNeg) (xs (a5 + (2 : Int32)).toNatClampNeg) (xs (a5 + (3 : Int32)).toNatClampNeg) M v6 M5 h4) yn_L_sampled rfl ⟨Nat.le_of_ble_eq_true rfl, Nat.le_of_ble_eq_true rfl⟩ rfl rfl (Nat.le_of_ble_eq_true rfl) ⟨(show cl + 2 ≤ 603072 by omega), (show sl + 12 ≤ 7198826 by omega)⟩ dL_law_2238 rfl ?_
  refine am_istore F [(6, .int v6), (0, .ref b), (1, .ref (z + 0)), (2, .ref (z + 174)), (3, .ref (z + 186)), (4, .ref (z + 187)), (5, .int a5)] dL_law_2241 (by decide) rfl ?_
  refine am_aload_n F 3 dL_law_2243 rfl rfl ?_
  refine am_aload_n F 1 dL_law_2244 rfl rfl ?_
  refine am_iload F 6 dL_law_2245 rfl ?_
  refine am_iconst F (v := (1 : Int32)) dL_law_2247 (by decide) ?_
  refine am_iadd F dL_law_2248 ?_
  obtain ⟨q7, h⟩ := am_ciE h
  refine am_sld F hxs hbl hbz q7 dL_law_2249 ?_
  refine am_aload_n F 1 dL_law_2250 rfl rfl ?_
  refine am_iload F 6 dL_law_2251 rfl ?_
  refine am_iconst F (v := (2 : Int32)) dL_law_2253 (by decide) ?_
  refine am_iadd F dL_law_2254 ?_
  obtain ⟨q8, h⟩ := am_ciE h
  refine am_sld F hxs hbl hbz q8 dL_law_2255 ?_
  refine am_aload_n F 1 dL_law_2256 rfl rfl ?_
  refine am_iload F 6 dL_law_2257 rfl ?_
  refine am_iconst F (v := (3 : Int32)) dL_law_2259 (by decide) ?_
  refine am_iadd F dL_law_2260 ?_
  obtain ⟨q9, h⟩ := am_ciE h
  refine am_sld F hxs hbl hbz q9 dL_law_2261 ?_
  obtain ⟨v12, M11, h10, h⟩ := am_bE h
  refine am_callVi F [.int (xs (a5 + (1 : Int32)).toNatClampNeg), .int (xs (a5 + (2 : Int32)).toNatClampNeg), .int (xs (a5 + (3 : Int32)).toNatClampNeg)] lyk_174 (by decide) rfl cv_L_253 (c_X10_sampled l D E z (xs (a5 + (1 : Int32)).toNatClampNeg) (xs (a5 + (2 : Int32)).toNatClampNeg) (xs (a5 + (3 : Int32)).toNatClampNeg) M5 v12 M11 h10) yn_X10_sampled rfl ⟨Nat.le_of_ble_eq_true rfl, Nat.le_of_ble_eq_true rfl⟩ rfl rfl (Nat.le_of_ble_eq_true rfl) ⟨(show cl + 2 ≤ 603072 by omega), (show sl + 12 ≤ 7198826 by omega)⟩ dL_law_2262 rfl ?_
  refine am_istore F [(7, .int v12), (6, .int v6), (0, .ref b), (1, .ref (z + 0)), (2, .ref (z + 174)), (3, .ref (z + 186)), (4, .ref (z + 187)), (5, .int a5)] dL_law_2265 (by decide) rfl ?_
  refine am_aload_n F 4 dL_law_2267 rfl rfl ?_
  obtain ⟨v15, M14, h13, h⟩ := am_bE h
  refine am_callVi F [] lyk_174 (by decide) rfl cv_L_148 (c_X10_thrown l D E z  M11 v15 M14 h13) yn_X10_thrown rfl ⟨Nat.le_of_ble_eq_true rfl, Nat.le_of_ble_eq_true rfl⟩ rfl rfl (Nat.le_of_ble_eq_true rfl) ⟨(show cl + 2 ≤ 603072 by omega), (show sl + 12 ≤ 7198826 by omega)⟩ dL_law_2268 rfl ?_
  refine am_iload F 1 dL_law_2271 rfl ?_
  refine am_icmp_eq F (tgt := 2278) dL_law_2273 (by decide) (fun c19 => ?_) (fun c19 => ?_)
  · have h := (if_pos c19).symm.trans h
    refine am_iload F 1 dL_law_2278 rfl ?_
    refine am_if_ne F (tgt := 2295) dL_law_2280 (by decide) (fun c18 => ?_) (fun c18 => ?_)
    · have h := (if_neg c18).symm.trans h
      refine am_goto F (tgt := 2501) dL_law_2295 (by decide) ?_
      refine am_iinc F [(5, .int (a5 + (5 : Int32))), (7, .int v12), (6, .int v6), (0, .ref b), (1, .ref (z + 0)), (2, .ref (z + 174)), (3, .ref (z + 186)), (4, .ref (z + 187))] 7 dL_law_2501 (by decide) rfl rfl rfl ?_
      refine am_goto F (tgt := 28) dL_law_2504 (by decide) ?_
      exact am_sub (lv' := [(0, .ref b), (1, .ref (z + 0)), (2, .ref (z + 174)), (3, .ref (z + 186)), (4, .ref (z + 187)), (5, .int (a5 + (5 : Int32)))]) [3, 4, 5, 6, 7, 0] rfl (HR (a5 + (5 : Int32)) M14 (cl + 2) (sl + 12) (by omega) (by omega) h)
    · have h := (if_pos c18).symm.trans h
      refine am_aload_n F 5 dL_law_2283 rfl rfl ?_
      refine am_iconst F (v := (0 : Int32)) dL_law_2284 (by decide) ?_
      obtain ⟨q16, h⟩ := am_ciE h
      refine am_lald F lyk_186 q16 dL_law_2285 ?_
      refine am_iload F 0 dL_law_2286 rfl ?_
      refine am_i2l F dL_law_2288 ?_
      refine am_lcmp F dL_law_2289 ?_
      refine am_if_eq F (tgt := 2295) dL_law_2290 (by decide) (fun c17 => ?_) (fun c17 => ?_)
      · have h := (if_pos c17).symm.trans h
        refine am_goto F (tgt := 2501) dL_law_2295 (by decide) ?_
        refine am_iinc F [(5, .int (a5 + (5 : Int32))), (7, .int v12), (6, .int v6), (0, .ref b), (1, .ref (z + 0)), (2, .ref (z + 174)), (3, .ref (z + 186)), (4, .ref (z + 187))] 7 dL_law_2501 (by decide) rfl rfl rfl ?_
        refine am_goto F (tgt := 28) dL_law_2504 (by decide) ?_
        exact am_sub (lv' := [(0, .ref b), (1, .ref (z + 0)), (2, .ref (z + 174)), (3, .ref (z + 186)), (4, .ref (z + 187)), (5, .int (a5 + (5 : Int32)))]) [3, 4, 5, 6, 7, 0] rfl (HR (a5 + (5 : Int32)) M14 (cl + 2) (sl + 12) (by omega) (by omega) h)
      · have h := (if_neg c17).symm.trans h
        cases h
  · have h := (if_neg c19).symm.trans h
    cases h
def g_L_law_J2298 (xs : Nat → Int32) (L : Nat) (rc : Int32 → am_M → Option (Unit × am_M)) (a5 : Int32) (M : am_M) : Option (Unit × am_M) := (am_ci (a5 + (1 : Int32)) L (am_b (g_L_append (((xs (a5 + (1 : Int32)).toNatClampNeg).toUInt32 % 65536).toInt32) M) (fun v4 M3 => (am_ci (a5 + (1 : Int32)) L (am_b (g_X10_append (((xs (a5 + (1 : Int32)).toNatClampNeg).toUInt32 % 65536).toInt32) M3) (fun v8 M7 => (am_b (g_X10_thrown  M7) (fun v11 M10 => (if v11 = v4 then (if v4 = (0 : Int32) then (am_ci (0 : Int32) 1 (if (lg_cmp (am_lg M10 186 (0 : Int32).toNatClampNeg) (v8.toInt64)) = (0 : Int32) then (rc (a5 + (5 : Int32)) M10) else none)) else (rc (a5 + (5 : Int32)) M10)) else none)))))))))
set_option maxHeartbeats 4000000 in
set_option maxRecDepth 100000 in
theorem cj_L_law_J2298 {l : Launch} {p : Program} {e : Env} {s : State} {m : MethodId} {args : Array Value} {below : List Frame} {meth : Method} {c : Code} {Q : State → Prop} {D : va_G} {E : Nat → ClassId} {z b L : Nat} {xs : Nat → Int32} (F : am_F p s m args meth c cL_law 9 RL D E z) (hxs : va_X b L xs s s.heap) (hbl : b < s.heap.size) (hbz : ¬ z ≤ b) (hNC : am_NC s) (hls : l.stackTraces = false) (rc : Int32 → am_M → Option (Unit × am_M)) (a5 : Int32) (M M1 : am_M) (cl sl : Nat) (hc9 : cl + 10 ≤ 603072) (hs9 : sl + 60 ≤ 7198826) (h : g_L_law_J2298 xs L rc a5 M = some ((), M1)) (HR : ∀ (b5 : Int32) (M2 : am_M) (cl2 sl2 : Nat), cl2 ≤ cl + 10 → sl2 ≤ sl + 60 → rc b5 M2 = some ((), M1) → am_W p l e room_1 s m args below meth c Q 9 D E z cl2 sl2 M2 28 [(0, .ref b), (1, .ref (z + 0)), (2, .ref (z + 174)), (3, .ref (z + 186)), (4, .ref (z + 187)), (5, .int b5)] []) : am_W p l e room_1 s m args below meth c Q 9 D E z cl sl M 2298 [(0, .ref b), (1, .ref (z + 0)), (2, .ref (z + 174)), (3, .ref (z + 186)), (4, .ref (z + 187)), (5, .int a5)] [] := by
  unfold g_L_law_J2298 at h
  refine am_aload_n F 1 dL_law_2298 rfl rfl ?_
  refine am_aload_n F 0 dL_law_2299 rfl rfl ?_
  refine am_iload F 5 dL_law_2300 rfl ?_
  refine am_iconst F (v := (1 : Int32)) dL_law_2302 (by decide) ?_
  refine am_iadd F dL_law_2303 ?_
  obtain ⟨q1, h⟩ := am_ciE h
  refine am_sld F hxs hbl hbz q1 dL_law_2304 ?_
  refine am_i2c F dL_law_2305 ?_
  refine am_aload_n F 3 dL_law_2306 rfl rfl ?_
  obtain ⟨v4, M3, h2, h⟩ := am_bE h
  refine am_callL F hNC [.ref (z + 0), .int (((xs (a5 + (1 : Int32)).toNatClampNeg).toUInt32 % 65536).toInt32), .ref (z + 186)] cs_L_254 (c_L_append l hls D E z (((xs (a5 + (1 : Int32)).toNatClampNeg).toUInt32 % 65536).toInt32) M v4 M3 h2) yn_L_append rfl ⟨Nat.le_of_ble_eq_true rfl, Nat.le_of_ble_eq_true rfl⟩ rfl rfl (Nat.le_of_ble_eq_true rfl) ⟨(show cl + 1 ≤ 603072 by omega), (show sl + 6 ≤ 7198826 by omega)⟩ dL_law_2307 rfl ?_
  refine am_istore F [(6, .int v4), (0, .ref b), (1, .ref (z + 0)), (2, .ref (z + 174)), (3, .ref (z + 186)), (4, .ref (z + 187)), (5, .int a5)] dL_law_2310 (by decide) rfl ?_
  refine am_aload_n F 3 dL_law_2312 rfl rfl ?_
  refine am_aload_n F 1 dL_law_2313 rfl rfl ?_
  refine am_iload F 6 dL_law_2314 rfl ?_
  refine am_iconst F (v := (1 : Int32)) dL_law_2316 (by decide) ?_
  refine am_iadd F dL_law_2317 ?_
  obtain ⟨q5, h⟩ := am_ciE h
  refine am_sld F hxs hbl hbz q5 dL_law_2318 ?_
  refine am_i2c F dL_law_2319 ?_
  obtain ⟨v8, M7, h6, h⟩ := am_bE h
  refine am_callVi F [.int (((xs (a5 + (1 : Int32)).toNatClampNeg).toUInt32 % 65536).toInt32)] lyk_174 (by decide) rfl cv_L_257 (c_X10_append l D E z (((xs (a5 + (1 : Int32)).toNatClampNeg).toUInt32 % 65536).toInt32) M3 v8 M7 h6) yn_X10_append rfl ⟨Nat.le_of_ble_eq_true rfl, Nat.le_of_ble_eq_true rfl⟩ rfl rfl (Nat.le_of_ble_eq_true rfl) ⟨(show cl + 1 ≤ 603072 by omega), (show sl + 6 ≤ 7198826 by omega)⟩ dL_law_2320 rfl ?_
  refine am_istore F [(7, .int v8), (6, .int v4), (0, .ref b), (1, .ref (z + 0)), (2, .ref (z + 174)), (3, .ref (z + 186)), (4, .ref (z + 187)), (5, .int a5)] dL_law_2323 (by decide) rfl ?_
  refine am_aload_n F 4 dL_law_2325 rfl rfl ?_
  obtain ⟨v11, M10, h9, h⟩ := am_bE h
  refine am_callVi F [] lyk_174 (by decide) rfl cv_L_148 (c_X10_thrown l D E z  M7 v11 M10 h9) yn_X10_thrown rfl ⟨Nat.le_of_ble_eq_true rfl, Nat.le_of_ble_eq_true rfl⟩ rfl rfl (Nat.le_of_ble_eq_true rfl) ⟨(show cl + 1 ≤ 603072 by omega), (show sl + 6 ≤ 7198826 by omega)⟩ dL_law_2326 rfl ?_
  refine am_iload F 1 dL_law_2329 rfl ?_
  refine am_icmp_eq F (tgt := 2336) dL_law_2331 (by decide) (fun c15 => ?_) (fun c15 => ?_)
  · have h := (if_pos c15).symm.trans h
    refine am_iload F 1 dL_law_2336 rfl ?_
    refine am_if_ne F (tgt := 2353) dL_law_2338 (by decide) (fun c14 => ?_) (fun c14 => ?_)
    · have h := (if_neg c14).symm.trans h
      refine am_goto F (tgt := 2501) dL_law_2353 (by decide) ?_
      refine am_iinc F [(5, .int (a5 + (5 : Int32))), (7, .int v8), (6, .int v4), (0, .ref b), (1, .ref (z + 0)), (2, .ref (z + 174)), (3, .ref (z + 186)), (4, .ref (z + 187))] 7 dL_law_2501 (by decide) rfl rfl rfl ?_
      refine am_goto F (tgt := 28) dL_law_2504 (by decide) ?_
      exact am_sub (lv' := [(0, .ref b), (1, .ref (z + 0)), (2, .ref (z + 174)), (3, .ref (z + 186)), (4, .ref (z + 187)), (5, .int (a5 + (5 : Int32)))]) [3, 4, 5, 6, 7, 0] rfl (HR (a5 + (5 : Int32)) M10 (cl + 1) (sl + 6) (by omega) (by omega) h)
    · have h := (if_pos c14).symm.trans h
      refine am_aload_n F 5 dL_law_2341 rfl rfl ?_
      refine am_iconst F (v := (0 : Int32)) dL_law_2342 (by decide) ?_
      obtain ⟨q12, h⟩ := am_ciE h
      refine am_lald F lyk_186 q12 dL_law_2343 ?_
      refine am_iload F 0 dL_law_2344 rfl ?_
      refine am_i2l F dL_law_2346 ?_
      refine am_lcmp F dL_law_2347 ?_
      refine am_if_eq F (tgt := 2353) dL_law_2348 (by decide) (fun c13 => ?_) (fun c13 => ?_)
      · have h := (if_pos c13).symm.trans h
        refine am_goto F (tgt := 2501) dL_law_2353 (by decide) ?_
        refine am_iinc F [(5, .int (a5 + (5 : Int32))), (7, .int v8), (6, .int v4), (0, .ref b), (1, .ref (z + 0)), (2, .ref (z + 174)), (3, .ref (z + 186)), (4, .ref (z + 187))] 7 dL_law_2501 (by decide) rfl rfl rfl ?_
        refine am_goto F (tgt := 28) dL_law_2504 (by decide) ?_
        exact am_sub (lv' := [(0, .ref b), (1, .ref (z + 0)), (2, .ref (z + 174)), (3, .ref (z + 186)), (4, .ref (z + 187)), (5, .int (a5 + (5 : Int32)))]) [3, 4, 5, 6, 7, 0] rfl (HR (a5 + (5 : Int32)) M10 (cl + 1) (sl + 6) (by omega) (by omega) h)
      · have h := (if_neg c13).symm.trans h
        cases h
  · have h := (if_neg c15).symm.trans h
    cases h
def g_L_law_J2356 (xs : Nat → Int32) (L : Nat) (rc : Int32 → am_M → Option (Unit × am_M)) (a5 : Int32) (M : am_M) : Option (Unit × am_M) := (am_b (g_L_read  M) (fun v3 M2 => (am_b (g_X10_read  M2) (fun v6 M5 => (am_b (g_X10_thrown  M5) (fun v9 M8 => (if v9 = v3 then (if v3 = (0 : Int32) then (am_ci (0 : Int32) 1 (if (lg_cmp (am_lg M8 186 (0 : Int32).toNatClampNeg) (v6.toInt64)) = (0 : Int32) then (rc (a5 + (5 : Int32)) M8) else none)) else (rc (a5 + (5 : Int32)) M8)) else none)))))))
set_option maxHeartbeats 4000000 in
set_option maxRecDepth 100000 in
theorem cj_L_law_J2356 {l : Launch} {p : Program} {e : Env} {s : State} {m : MethodId} {args : Array Value} {below : List Frame} {meth : Method} {c : Code} {Q : State → Prop} {D : va_G} {E : Nat → ClassId} {z b L : Nat} {xs : Nat → Int32} (F : am_F p s m args meth c cL_law 9 RL D E z) (hxs : va_X b L xs s s.heap) (hbl : b < s.heap.size) (hbz : ¬ z ≤ b) (hNC : am_NC s) (hls : l.stackTraces = false) (rc : Int32 → am_M → Option (Unit × am_M)) (a5 : Int32) (M M1 : am_M) (cl sl : Nat) (hc9 : cl + 10 ≤ 603072) (hs9 : sl + 60 ≤ 7198826) (h : g_L_law_J2356 xs L rc a5 M = some ((), M1)) (HR : ∀ (b5 : Int32) (M2 : am_M) (cl2 sl2 : Nat), cl2 ≤ cl + 10 → sl2 ≤ sl + 60 → rc b5 M2 = some ((), M1) → am_W p l e room_1 s m args below meth c Q 9 D E z cl2 sl2 M2 28 [(0, .ref b), (1, .ref (z + 0)), (2, .ref (z + 174)), (3, .ref (z + 186)), (4, .ref (z + 187)), (5, .int b5)] []) : am_W p l e room_1 s m args below meth c Q 9 D E z cl sl M 2356 [(0, .ref b), (1, .ref (z + 0)), (2, .ref (z + 174)), (3, .ref (z + 186)), (4, .ref (z + 187)), (5, .int a5)] [] := by
  unfold g_L_law_J2356 at h
  refine am_aload_n F 1 dL_law_2356 rfl rfl ?_
  refine am_aload_n F 3 dL_law_2357 rfl rfl ?_
  obtain ⟨v3, M2, h1, h⟩ := am_bE h
  refine am_callL F hNC [.ref (z + 0), .ref (z + 186)] cs_L_258 (c_L_read l hls D E z  M v3 M2 h1) yn_L_read rfl ⟨Nat.le_of_ble_eq_true rfl, Nat.le_of_ble_eq_true rfl⟩ rfl rfl (Nat.le_of_ble_eq_true rfl) ⟨(show cl + 1 ≤ 603072 by omega), (show sl + 6 ≤ 7198826 by omega)⟩ dL_law_2358 rfl ?_
  refine am_istore F [(6, .int v3), (0, .ref b), (1, .ref (z + 0)), (2, .ref (z + 174)), (3, .ref (z + 186)), (4, .ref (z + 187)), (5, .int a5)] dL_law_2361 (by decide) rfl ?_
  refine am_aload_n F 3 dL_law_2363 rfl rfl ?_
  obtain ⟨v6, M5, h4, h⟩ := am_bE h
  refine am_callVi F [] lyk_174 (by decide) rfl cv_L_261 (c_X10_read l D E z  M2 v6 M5 h4) yn_X10_read rfl ⟨Nat.le_of_ble_eq_true rfl, Nat.le_of_ble_eq_true rfl⟩ rfl rfl (Nat.le_of_ble_eq_true rfl) ⟨(show cl + 1 ≤ 603072 by omega), (show sl + 6 ≤ 7198826 by omega)⟩ dL_law_2364 rfl ?_
  refine am_istore F [(7, .int v6), (6, .int v3), (0, .ref b), (1, .ref (z + 0)), (2, .ref (z + 174)), (3, .ref (z + 186)), (4, .ref (z + 187)), (5, .int a5)] dL_law_2367 (by decide) rfl ?_
  refine am_aload_n F 4 dL_law_2369 rfl rfl ?_
  obtain ⟨v9, M8, h7, h⟩ := am_bE h
  refine am_callVi F [] lyk_174 (by decide) rfl cv_L_148 (c_X10_thrown l D E z  M5 v9 M8 h7) yn_X10_thrown rfl ⟨Nat.le_of_ble_eq_true rfl, Nat.le_of_ble_eq_true rfl⟩ rfl rfl (Nat.le_of_ble_eq_true rfl) ⟨(show cl + 1 ≤ 603072 by omega), (show sl + 6 ≤ 7198826 by omega)⟩ dL_law_2370 rfl ?_
  refine am_iload F 1 dL_law_2373 rfl ?_
  refine am_icmp_eq F (tgt := 2380) dL_law_2375 (by decide) (fun c13 => ?_) (fun c13 => ?_)
  · have h := (if_pos c13).symm.trans h
    refine am_iload F 1 dL_law_2380 rfl ?_
    refine am_if_ne F (tgt := 2397) dL_law_2382 (by decide) (fun c12 => ?_) (fun c12 => ?_)
    · have h := (if_neg c12).symm.trans h
      refine am_goto F (tgt := 2501) dL_law_2397 (by decide) ?_
      refine am_iinc F [(5, .int (a5 + (5 : Int32))), (7, .int v6), (6, .int v3), (0, .ref b), (1, .ref (z + 0)), (2, .ref (z + 174)), (3, .ref (z + 186)), (4, .ref (z + 187))] 7 dL_law_2501 (by decide) rfl rfl rfl ?_
      refine am_goto F (tgt := 28) dL_law_2504 (by decide) ?_
      exact am_sub (lv' := [(0, .ref b), (1, .ref (z + 0)), (2, .ref (z + 174)), (3, .ref (z + 186)), (4, .ref (z + 187)), (5, .int (a5 + (5 : Int32)))]) [3, 4, 5, 6, 7, 0] rfl (HR (a5 + (5 : Int32)) M8 (cl + 1) (sl + 6) (by omega) (by omega) h)
    · have h := (if_pos c12).symm.trans h
      refine am_aload_n F 5 dL_law_2385 rfl rfl ?_
      refine am_iconst F (v := (0 : Int32)) dL_law_2386 (by decide) ?_
      obtain ⟨q10, h⟩ := am_ciE h
      refine am_lald F lyk_186 q10 dL_law_2387 ?_
      refine am_iload F 0 dL_law_2388 rfl ?_
      refine am_i2l F dL_law_2390 ?_
      refine am_lcmp F dL_law_2391 ?_
      refine am_if_eq F (tgt := 2397) dL_law_2392 (by decide) (fun c11 => ?_) (fun c11 => ?_)
      · have h := (if_pos c11).symm.trans h
        refine am_goto F (tgt := 2501) dL_law_2397 (by decide) ?_
        refine am_iinc F [(5, .int (a5 + (5 : Int32))), (7, .int v6), (6, .int v3), (0, .ref b), (1, .ref (z + 0)), (2, .ref (z + 174)), (3, .ref (z + 186)), (4, .ref (z + 187))] 7 dL_law_2501 (by decide) rfl rfl rfl ?_
        refine am_goto F (tgt := 28) dL_law_2504 (by decide) ?_
        exact am_sub (lv' := [(0, .ref b), (1, .ref (z + 0)), (2, .ref (z + 174)), (3, .ref (z + 186)), (4, .ref (z + 187)), (5, .int (a5 + (5 : Int32)))]) [3, 4, 5, 6, 7, 0] rfl (HR (a5 + (5 : Int32)) M8 (cl + 1) (sl + 6) (by omega) (by omega) h)
      · have h := (if_neg c11).symm.trans h
        cases h
  · have h := (if_neg c13).symm.trans h
    cases h
def g_L_law_J2400 (xs : Nat → Int32) (L : Nat) (rc : Int32 → am_M → Option (Unit × am_M)) (a5 : Int32) (M : am_M) : Option (Unit × am_M) := (am_b (g_L_errorPosition  M) (fun v3 M2 => (am_b (g_X10_errorPosition  M2) (fun v6 M5 => (am_b (g_X10_thrown  M5) (fun v9 M8 => (if v9 = v3 then (if v3 = (0 : Int32) then (am_ci (0 : Int32) 1 (if (lg_cmp (am_lg M8 186 (0 : Int32).toNatClampNeg) (v6.toInt64)) = (0 : Int32) then (rc (a5 + (5 : Int32)) M8) else none)) else (rc (a5 + (5 : Int32)) M8)) else none)))))))
set_option maxHeartbeats 4000000 in
set_option maxRecDepth 100000 in
theorem cj_L_law_J2400 {l : Launch} {p : Program} {e : Env} {s : State} {m : MethodId} {args : Array Value} {below : List Frame} {meth : Method} {c : Code} {Q : State → Prop} {D : va_G} {E : Nat → ClassId} {z b L : Nat} {xs : Nat → Int32} (F : am_F p s m args meth c cL_law 9 RL D E z) (hxs : va_X b L xs s s.heap) (hbl : b < s.heap.size) (hbz : ¬ z ≤ b) (hNC : am_NC s) (hls : l.stackTraces = false) (rc : Int32 → am_M → Option (Unit × am_M)) (a5 : Int32) (M M1 : am_M) (cl sl : Nat) (hc9 : cl + 10 ≤ 603072) (hs9 : sl + 60 ≤ 7198826) (h : g_L_law_J2400 xs L rc a5 M = some ((), M1)) (HR : ∀ (b5 : Int32) (M2 : am_M) (cl2 sl2 : Nat), cl2 ≤ cl + 10 → sl2 ≤ sl + 60 → rc b5 M2 = some ((), M1) → am_W p l e room_1 s m args below meth c Q 9 D E z cl2 sl2 M2 28 [(0, .ref b), (1, .ref (z + 0)), (2, .ref (z + 174)), (3, .ref (z + 186)), (4, .ref (z + 187)), (5, .int b5)] []) : am_W p l e room_1 s m args below meth c Q 9 D E z cl sl M 2400 [(0, .ref b), (1, .ref (z + 0)), (2, .ref (z + 174)), (3, .ref (z + 186)), (4, .ref (z + 187)), (5, .int a5)] [] := by
  unfold g_L_law_J2400 at h
  refine am_aload_n F 1 dL_law_2400 rfl rfl ?_
  refine am_aload_n F 3 dL_law_2401 rfl rfl ?_
  obtain ⟨v3, M2, h1, h⟩ := am_bE h
  refine am_callL F hNC [.ref (z + 0), .ref (z + 186)] cs_L_262 (c_L_errorPosition l hls D E z  M v3 M2 h1) yn_L_errorPosition rfl ⟨Nat.le_of_ble_eq_true rfl, Nat.le_of_ble_eq_true rfl⟩ rfl rfl (Nat.le_of_ble_eq_true rfl) ⟨(show cl + 1 ≤ 603072 by omega), (show sl + 6 ≤ 7198826 by omega)⟩ dL_law_2402 rfl ?_
  refine am_istore F [(6, .int v3), (0, .ref b), (1, .ref (z + 0)), (2, .ref (z + 174)), (3, .ref (z + 186)), (4, .ref (z + 187)), (5, .int a5)] dL_law_2405 (by decide) rfl ?_
  refine am_aload_n F 3 dL_law_2407 rfl rfl ?_
  obtain ⟨v6, M5, h4, h⟩ := am_bE h
  refine am_callVi F [] lyk_174 (by decide) rfl cv_L_264 (c_X10_errorPosition l D E z  M2 v6 M5 h4) yn_X10_errorPosition rfl ⟨Nat.le_of_ble_eq_true rfl, Nat.le_of_ble_eq_true rfl⟩ rfl rfl (Nat.le_of_ble_eq_true rfl) ⟨(show cl + 1 ≤ 603072 by omega), (show sl + 6 ≤ 7198826 by omega)⟩ dL_law_2408 rfl ?_
  refine am_istore F [(7, .int v6), (6, .int v3), (0, .ref b), (1, .ref (z + 0)), (2, .ref (z + 174)), (3, .ref (z + 186)), (4, .ref (z + 187)), (5, .int a5)] dL_law_2411 (by decide) rfl ?_
  refine am_aload_n F 4 dL_law_2413 rfl rfl ?_
  obtain ⟨v9, M8, h7, h⟩ := am_bE h
  refine am_callVi F [] lyk_174 (by decide) rfl cv_L_148 (c_X10_thrown l D E z  M5 v9 M8 h7) yn_X10_thrown rfl ⟨Nat.le_of_ble_eq_true rfl, Nat.le_of_ble_eq_true rfl⟩ rfl rfl (Nat.le_of_ble_eq_true rfl) ⟨(show cl + 1 ≤ 603072 by omega), (show sl + 6 ≤ 7198826 by omega)⟩ dL_law_2414 rfl ?_
  refine am_iload F 1 dL_law_2417 rfl ?_
  refine am_icmp_eq F (tgt := 2424) dL_law_2419 (by decide) (fun c13 => ?_) (fun c13 => ?_)
  · have h := (if_pos c13).symm.trans h
    refine am_iload F 1 dL_law_2424 rfl ?_
    refine am_if_ne F (tgt := 2441) dL_law_2426 (by decide) (fun c12 => ?_) (fun c12 => ?_)
    · have h := (if_neg c12).symm.trans h
      refine am_goto F (tgt := 2501) dL_law_2441 (by decide) ?_
      refine am_iinc F [(5, .int (a5 + (5 : Int32))), (7, .int v6), (6, .int v3), (0, .ref b), (1, .ref (z + 0)), (2, .ref (z + 174)), (3, .ref (z + 186)), (4, .ref (z + 187))] 7 dL_law_2501 (by decide) rfl rfl rfl ?_
      refine am_goto F (tgt := 28) dL_law_2504 (by decide) ?_
      exact am_sub (lv' := [(0, .ref b), (1, .ref (z + 0)), (2, .ref (z + 174)), (3, .ref (z + 186)), (4, .ref (z + 187)), (5, .int (a5 + (5 : Int32)))]) [3, 4, 5, 6, 7, 0] rfl (HR (a5 + (5 : Int32)) M8 (cl + 1) (sl + 6) (by omega) (by omega) h)
    · have h := (if_pos c12).symm.trans h
      refine am_aload_n F 5 dL_law_2429 rfl rfl ?_
      refine am_iconst F (v := (0 : Int32)) dL_law_2430 (by decide) ?_
      obtain ⟨q10, h⟩ := am_ciE h
      refine am_lald F lyk_186 q10 dL_law_2431 ?_
      refine am_iload F 0 dL_law_2432 rfl ?_
      refine am_i2l F dL_law_2434 ?_
      refine am_lcmp F dL_law_2435 ?_
      refine am_if_eq F (tgt := 2441) dL_law_2436 (by decide) (fun c11 => ?_) (fun c11 => ?_)
      · have h := (if_pos c11).symm.trans h
        refine am_goto F (tgt := 2501) dL_law_2441 (by decide) ?_
        refine am_iinc F [(5, .int (a5 + (5 : Int32))), (7, .int v6), (6, .int v3), (0, .ref b), (1, .ref (z + 0)), (2, .ref (z + 174)), (3, .ref (z + 186)), (4, .ref (z + 187))] 7 dL_law_2501 (by decide) rfl rfl rfl ?_
        refine am_goto F (tgt := 28) dL_law_2504 (by decide) ?_
        exact am_sub (lv' := [(0, .ref b), (1, .ref (z + 0)), (2, .ref (z + 174)), (3, .ref (z + 186)), (4, .ref (z + 187)), (5, .int (a5 + (5 : Int32)))]) [3, 4, 5, 6, 7, 0] rfl (HR (a5 + (5 : Int32)) M8 (cl + 1) (sl + 6) (by omega) (by omega) h)
      · have h := (if_neg c11).symm.trans h
        cases h
  · have h := (if_neg c13).symm.trans h
    cases h
def g_L_law_J2444 (xs : Nat → Int32) (L : Nat) (rc : Int32 → am_M → Option (Unit × am_M)) (a5 : Int32) (M : am_M) : Option (Unit × am_M) := (am_b (g_X9_save  M) (fun v3 M2 => (am_b (g_X10_save  M2) (fun v6 M5 => (if v3 = v6 then (rc (a5 + (5 : Int32)) M5) else none)))))
set_option maxHeartbeats 4000000 in
set_option maxRecDepth 100000 in
theorem cj_L_law_J2444 {l : Launch} {p : Program} {e : Env} {s : State} {m : MethodId} {args : Array Value} {below : List Frame} {meth : Method} {c : Code} {Q : State → Prop} {D : va_G} {E : Nat → ClassId} {z b L : Nat} {xs : Nat → Int32} (F : am_F p s m args meth c cL_law 9 RL D E z) (hxs : va_X b L xs s s.heap) (hbl : b < s.heap.size) (hbz : ¬ z ≤ b) (hNC : am_NC s) (hls : l.stackTraces = false) (rc : Int32 → am_M → Option (Unit × am_M)) (a5 : Int32) (M M1 : am_M) (cl sl : Nat) (hc9 : cl + 10 ≤ 603072) (hs9 : sl + 60 ≤ 7198826) (h : g_L_law_J2444 xs L rc a5 M = some ((), M1)) (HR : ∀ (b5 : Int32) (M2 : am_M) (cl2 sl2 : Nat), cl2 ≤ cl + 10 → sl2 ≤ sl + 60 → rc b5 M2 = some ((), M1) → am_W p l e room_1 s m args below meth c Q 9 D E z cl2 sl2 M2 28 [(0, .ref b), (1, .ref (z + 0)), (2, .ref (z + 174)), (3, .ref (z + 186)), (4, .ref (z + 187)), (5, .int b5)] []) : am_W p l e room_1 s m args below meth c Q 9 D E z cl sl M 2444 [(0, .ref b), (1, .ref (z + 0)), (2, .ref (z + 174)), (3, .ref (z + 186)), (4, .ref (z + 187)), (5, .int a5)] [] := by
  unfold g_L_law_J2444 at h
  refine am_aload_n F 1 dL_law_2444 rfl rfl ?_
  obtain ⟨v3, M2, h1, h⟩ := am_bE h
  refine am_callVi F [] lyk_0 (by decide) rfl cv_L_265 (c_X9_save l D E z  M v3 M2 h1) yn_X9_save rfl ⟨Nat.le_of_ble_eq_true rfl, Nat.le_of_ble_eq_true rfl⟩ rfl rfl (Nat.le_of_ble_eq_true rfl) ⟨(show cl ≤ 603072 by omega), (show sl ≤ 7198826 by omega)⟩ dL_law_2445 rfl ?_
  refine am_aload_n F 2 dL_law_2448 rfl rfl ?_
  obtain ⟨v6, M5, h4, h⟩ := am_bE h
  refine am_callVi F [] lyk_174 (by decide) rfl cv_L_268 (c_X10_save l D E z  M2 v6 M5 h4) yn_X10_save rfl ⟨Nat.le_of_ble_eq_true rfl, Nat.le_of_ble_eq_true rfl⟩ rfl rfl (Nat.le_of_ble_eq_true rfl) ⟨(show cl ≤ 603072 by omega), (show sl ≤ 7198826 by omega)⟩ dL_law_2449 rfl ?_
  refine am_icmp_eq F (tgt := 2501) dL_law_2452 (by decide) (fun c7 => ?_) (fun c7 => ?_)
  · have h := (if_pos c7).symm.trans h
    refine am_iinc F [(5, .int (a5 + (5 : Int32))), (0, .ref b), (1, .ref (z + 0)), (2, .ref (z + 174)), (3, .ref (z + 186)), (4, .ref (z + 187))] 5 dL_law_2501 (by decide) rfl rfl rfl ?_
    refine am_goto F (tgt := 28) dL_law_2504 (by decide) ?_
    exact am_sub (lv' := [(0, .ref b), (1, .ref (z + 0)), (2, .ref (z + 174)), (3, .ref (z + 186)), (4, .ref (z + 187)), (5, .int (a5 + (5 : Int32)))]) [1, 2, 3, 4, 5, 0] rfl (HR (a5 + (5 : Int32)) M5 cl sl (by omega) (by omega) h)
  · have h := (if_neg c7).symm.trans h
    cases h
def g_L_law_J2457 (xs : Nat → Int32) (L : Nat) (rc : Int32 → am_M → Option (Unit × am_M)) (a5 : Int32) (M : am_M) : Option (Unit × am_M) := (am_b (g_L_restore  M) (fun v3 M2 => (am_b (g_X10_restore  M2) (fun v6 M5 => (am_b (g_X10_thrown  M5) (fun v9 M8 => (if v9 = v3 then (if v3 = (0 : Int32) then (am_ci (0 : Int32) 1 (if (lg_cmp (am_lg M8 186 (0 : Int32).toNatClampNeg) (v6.toInt64)) = (0 : Int32) then (rc (a5 + (5 : Int32)) M8) else none)) else (rc (a5 + (5 : Int32)) M8)) else none)))))))
set_option maxHeartbeats 4000000 in
set_option maxRecDepth 100000 in
theorem cj_L_law_J2457 {l : Launch} {p : Program} {e : Env} {s : State} {m : MethodId} {args : Array Value} {below : List Frame} {meth : Method} {c : Code} {Q : State → Prop} {D : va_G} {E : Nat → ClassId} {z b L : Nat} {xs : Nat → Int32} (F : am_F p s m args meth c cL_law 9 RL D E z) (hxs : va_X b L xs s s.heap) (hbl : b < s.heap.size) (hbz : ¬ z ≤ b) (hNC : am_NC s) (hls : l.stackTraces = false) (rc : Int32 → am_M → Option (Unit × am_M)) (a5 : Int32) (M M1 : am_M) (cl sl : Nat) (hc9 : cl + 10 ≤ 603072) (hs9 : sl + 60 ≤ 7198826) (h : g_L_law_J2457 xs L rc a5 M = some ((), M1)) (HR : ∀ (b5 : Int32) (M2 : am_M) (cl2 sl2 : Nat), cl2 ≤ cl + 10 → sl2 ≤ sl + 60 → rc b5 M2 = some ((), M1) → am_W p l e room_1 s m args below meth c Q 9 D E z cl2 sl2 M2 28 [(0, .ref b), (1, .ref (z + 0)), (2, .ref (z + 174)), (3, .ref (z + 186)), (4, .ref (z + 187)), (5, .int b5)] []) : am_W p l e room_1 s m args below meth c Q 9 D E z cl sl M 2457 [(0, .ref b), (1, .ref (z + 0)), (2, .ref (z + 174)), (3, .ref (z + 186)), (4, .ref (z + 187)), (5, .int a5)] [] := by
  unfold g_L_law_J2457 at h
  refine am_aload_n F 1 dL_law_2457 rfl rfl ?_
  refine am_aload_n F 3 dL_law_2458 rfl rfl ?_
  obtain ⟨v3, M2, h1, h⟩ := am_bE h
  refine am_callL F hNC [.ref (z + 0), .ref (z + 186)] cs_L_269 (c_L_restore l hls D E z  M v3 M2 h1) yn_L_restore rfl ⟨Nat.le_of_ble_eq_true rfl, Nat.le_of_ble_eq_true rfl⟩ rfl rfl (Nat.le_of_ble_eq_true rfl) ⟨(show cl + 1 ≤ 603072 by omega), (show sl + 6 ≤ 7198826 by omega)⟩ dL_law_2459 rfl ?_
  refine am_istore F [(6, .int v3), (0, .ref b), (1, .ref (z + 0)), (2, .ref (z + 174)), (3, .ref (z + 186)), (4, .ref (z + 187)), (5, .int a5)] dL_law_2462 (by decide) rfl ?_
  refine am_aload_n F 3 dL_law_2464 rfl rfl ?_
  obtain ⟨v6, M5, h4, h⟩ := am_bE h
  refine am_callVi F [] lyk_174 (by decide) rfl cv_L_271 (c_X10_restore l D E z  M2 v6 M5 h4) yn_X10_restore rfl ⟨Nat.le_of_ble_eq_true rfl, Nat.le_of_ble_eq_true rfl⟩ rfl rfl (Nat.le_of_ble_eq_true rfl) ⟨(show cl + 1 ≤ 603072 by omega), (show sl + 6 ≤ 7198826 by omega)⟩ dL_law_2465 rfl ?_
  refine am_istore F [(7, .int v6), (6, .int v3), (0, .ref b), (1, .ref (z + 0)), (2, .ref (z + 174)), (3, .ref (z + 186)), (4, .ref (z + 187)), (5, .int a5)] dL_law_2468 (by decide) rfl ?_
  refine am_aload_n F 4 dL_law_2470 rfl rfl ?_
  obtain ⟨v9, M8, h7, h⟩ := am_bE h
  refine am_callVi F [] lyk_174 (by decide) rfl cv_L_148 (c_X10_thrown l D E z  M5 v9 M8 h7) yn_X10_thrown rfl ⟨Nat.le_of_ble_eq_true rfl, Nat.le_of_ble_eq_true rfl⟩ rfl rfl (Nat.le_of_ble_eq_true rfl) ⟨(show cl + 1 ≤ 603072 by omega), (show sl + 6 ≤ 7198826 by omega)⟩ dL_law_2471 rfl ?_
  refine am_iload F 1 dL_law_2474 rfl ?_
  refine am_icmp_eq F (tgt := 2481) dL_law_2476 (by decide) (fun c13 => ?_) (fun c13 => ?_)
  · have h := (if_pos c13).symm.trans h
    refine am_iload F 1 dL_law_2481 rfl ?_
    refine am_if_ne F (tgt := 2498) dL_law_2483 (by decide) (fun c12 => ?_) (fun c12 => ?_)
    · have h := (if_neg c12).symm.trans h
      refine am_goto F (tgt := 2501) dL_law_2498 (by decide) ?_
      refine am_iinc F [(5, .int (a5 + (5 : Int32))), (7, .int v6), (6, .int v3), (0, .ref b), (1, .ref (z + 0)), (2, .ref (z + 174)), (3, .ref (z + 186)), (4, .ref (z + 187))] 7 dL_law_2501 (by decide) rfl rfl rfl ?_
      refine am_goto F (tgt := 28) dL_law_2504 (by decide) ?_
      exact am_sub (lv' := [(0, .ref b), (1, .ref (z + 0)), (2, .ref (z + 174)), (3, .ref (z + 186)), (4, .ref (z + 187)), (5, .int (a5 + (5 : Int32)))]) [3, 4, 5, 6, 7, 0] rfl (HR (a5 + (5 : Int32)) M8 (cl + 1) (sl + 6) (by omega) (by omega) h)
    · have h := (if_pos c12).symm.trans h
      refine am_aload_n F 5 dL_law_2486 rfl rfl ?_
      refine am_iconst F (v := (0 : Int32)) dL_law_2487 (by decide) ?_
      obtain ⟨q10, h⟩ := am_ciE h
      refine am_lald F lyk_186 q10 dL_law_2488 ?_
      refine am_iload F 0 dL_law_2489 rfl ?_
      refine am_i2l F dL_law_2491 ?_
      refine am_lcmp F dL_law_2492 ?_
      refine am_if_eq F (tgt := 2498) dL_law_2493 (by decide) (fun c11 => ?_) (fun c11 => ?_)
      · have h := (if_pos c11).symm.trans h
        refine am_goto F (tgt := 2501) dL_law_2498 (by decide) ?_
        refine am_iinc F [(5, .int (a5 + (5 : Int32))), (7, .int v6), (6, .int v3), (0, .ref b), (1, .ref (z + 0)), (2, .ref (z + 174)), (3, .ref (z + 186)), (4, .ref (z + 187))] 7 dL_law_2501 (by decide) rfl rfl rfl ?_
        refine am_goto F (tgt := 28) dL_law_2504 (by decide) ?_
        exact am_sub (lv' := [(0, .ref b), (1, .ref (z + 0)), (2, .ref (z + 174)), (3, .ref (z + 186)), (4, .ref (z + 187)), (5, .int (a5 + (5 : Int32)))]) [3, 4, 5, 6, 7, 0] rfl (HR (a5 + (5 : Int32)) M8 (cl + 1) (sl + 6) (by omega) (by omega) h)
      · have h := (if_neg c11).symm.trans h
        cases h
  · have h := (if_neg c13).symm.trans h
    cases h
def g_L_law_L28 (xs : Nat → Int32) (L : Nat) : Nat → Int32 → am_M → Option (Unit × am_M)
  | 0, _, _ => none
  | n + 1, a5, M => (if ((Int32.ofNat L) - (5 : Int32)) < a5 then (some ((), M)) else (am_ci a5 L (if ((xs a5.toNatClampNeg) &&& (63 : Int32)) = (0 : Int32) then (g_L_law_J216 xs L (g_L_law_L28 xs L n) a5 M) else (if ((xs a5.toNatClampNeg) &&& (63 : Int32)) = (1 : Int32) then (g_L_law_J229 xs L (g_L_law_L28 xs L n) a5 M) else (if ((xs a5.toNatClampNeg) &&& (63 : Int32)) = (2 : Int32) then (g_L_law_J297 xs L (g_L_law_L28 xs L n) a5 M) else (if ((xs a5.toNatClampNeg) &&& (63 : Int32)) = (3 : Int32) then (g_L_law_J353 xs L (g_L_law_L28 xs L n) a5 M) else (if ((xs a5.toNatClampNeg) &&& (63 : Int32)) = (4 : Int32) then (g_L_law_J421 xs L (g_L_law_L28 xs L n) a5 M) else (if ((xs a5.toNatClampNeg) &&& (63 : Int32)) = (5 : Int32) then (g_L_law_J489 xs L (g_L_law_L28 xs L n) a5 M) else (if ((xs a5.toNatClampNeg) &&& (63 : Int32)) = (6 : Int32) then (g_L_law_J557 xs L (g_L_law_L28 xs L n) a5 M) else (if ((xs a5.toNatClampNeg) &&& (63 : Int32)) = (7 : Int32) then (g_L_law_J613 xs L (g_L_law_L28 xs L n) a5 M) else (if ((xs a5.toNatClampNeg) &&& (63 : Int32)) = (8 : Int32) then (g_L_law_J669 xs L (g_L_law_L28 xs L n) a5 M) else (if ((xs a5.toNatClampNeg) &&& (63 : Int32)) = (9 : Int32) then (g_L_law_J737 xs L (g_L_law_L28 xs L n) a5 M) else (if ((xs a5.toNatClampNeg) &&& (63 : Int32)) = (10 : Int32) then (g_L_law_J805 xs L (g_L_law_L28 xs L n) a5 M) else (if ((xs a5.toNatClampNeg) &&& (63 : Int32)) = (11 : Int32) then (g_L_law_J873 xs L (g_L_law_L28 xs L n) a5 M) else (if ((xs a5.toNatClampNeg) &&& (63 : Int32)) = (12 : Int32) then (g_L_law_J941 xs L (g_L_law_L28 xs L n) a5 M) else (if ((xs a5.toNatClampNeg) &&& (63 : Int32)) = (13 : Int32) then (g_L_law_J1009 xs L (g_L_law_L28 xs L n) a5 M) else (if ((xs a5.toNatClampNeg) &&& (63 : Int32)) = (14 : Int32) then (g_L_law_J1077 xs L (g_L_law_L28 xs L n) a5 M) else (if ((xs a5.toNatClampNeg) &&& (63 : Int32)) = (15 : Int32) then (g_L_law_J1145 xs L (g_L_law_L28 xs L n) a5 M) else (if ((xs a5.toNatClampNeg) &&& (63 : Int32)) = (16 : Int32) then (g_L_law_J1201 xs L (g_L_law_L28 xs L n) a5 M) else (if ((xs a5.toNatClampNeg) &&& (63 : Int32)) = (17 : Int32) then (g_L_law_J1269 xs L (g_L_law_L28 xs L n) a5 M) else (if ((xs a5.toNatClampNeg) &&& (63 : Int32)) = (18 : Int32) then (g_L_law_J1337 xs L (g_L_law_L28 xs L n) a5 M) else (if ((xs a5.toNatClampNeg) &&& (63 : Int32)) = (19 : Int32) then (g_L_law_J1393 xs L (g_L_law_L28 xs L n) a5 M) else (if ((xs a5.toNatClampNeg) &&& (63 : Int32)) = (20 : Int32) then (g_L_law_J1485 xs L (g_L_law_L28 xs L n) a5 M) else (if ((xs a5.toNatClampNeg) &&& (63 : Int32)) = (21 : Int32) then (g_L_law_J1553 xs L (g_L_law_L28 xs L n) a5 M) else (if ((xs a5.toNatClampNeg) &&& (63 : Int32)) = (22 : Int32) then (g_L_law_J1609 xs L (g_L_law_L28 xs L n) a5 M) else (if ((xs a5.toNatClampNeg) &&& (63 : Int32)) = (23 : Int32) then (g_L_law_J1677 xs L (g_L_law_L28 xs L n) a5 M) else (if ((xs a5.toNatClampNeg) &&& (63 : Int32)) = (24 : Int32) then (g_L_law_J1690 xs L (g_L_law_L28 xs L n) a5 M) else (if ((xs a5.toNatClampNeg) &&& (63 : Int32)) = (25 : Int32) then (g_L_law_J1746 xs L (g_L_law_L28 xs L n) a5 M) else (if ((xs a5.toNatClampNeg) &&& (63 : Int32)) = (26 : Int32) then (g_L_law_J1802 xs L (g_L_law_L28 xs L n) a5 M) else (if ((xs a5.toNatClampNeg) &&& (63 : Int32)) = (27 : Int32) then (g_L_law_J1870 xs L (g_L_law_L28 xs L n) a5 M) else (if ((xs a5.toNatClampNeg) &&& (63 : Int32)) = (28 : Int32) then (g_L_law_J1948 xs L (g_L_law_L28 xs L n) a5 M) else (if ((xs a5.toNatClampNeg) &&& (63 : Int32)) = (29 : Int32) then (g_L_law_J2004 xs L (g_L_law_L28 xs L n) a5 M) else (if ((xs a5.toNatClampNeg) &&& (63 : Int32)) = (30 : Int32) then (g_L_law_J2069 xs L (g_L_law_L28 xs L n) a5 M) else (if ((xs a5.toNatClampNeg) &&& (63 : Int32)) = (31 : Int32) then (g_L_law_J2125 xs L (g_L_law_L28 xs L n) a5 M) else (if ((xs a5.toNatClampNeg) &&& (63 : Int32)) = (32 : Int32) then (g_L_law_J2138 xs L (g_L_law_L28 xs L n) a5 M) else (if ((xs a5.toNatClampNeg) &&& (63 : Int32)) = (33 : Int32) then (g_L_law_J2218 xs L (g_L_law_L28 xs L n) a5 M) else (if ((xs a5.toNatClampNeg) &&& (63 : Int32)) = (34 : Int32) then (g_L_law_J2298 xs L (g_L_law_L28 xs L n) a5 M) else (if ((xs a5.toNatClampNeg) &&& (63 : Int32)) = (35 : Int32) then (g_L_law_J2356 xs L (g_L_law_L28 xs L n) a5 M) else (if ((xs a5.toNatClampNeg) &&& (63 : Int32)) = (36 : Int32) then (g_L_law_J2400 xs L (g_L_law_L28 xs L n) a5 M) else (if ((xs a5.toNatClampNeg) &&& (63 : Int32)) = (37 : Int32) then (g_L_law_J2444 xs L (g_L_law_L28 xs L n) a5 M) else (if ((xs a5.toNatClampNeg) &&& (63 : Int32)) = (38 : Int32) then (g_L_law_J2457 xs L (g_L_law_L28 xs L n) a5 M) else (g_L_law_L28 xs L n (a5 + (5 : Int32)) M))))))))))))))))))))))))))))))))))))))))))
set_option maxHeartbeats 4000000 in
set_option maxRecDepth 100000 in
theorem cl_L_law_L28 {l : Launch} {p : Program} {e : Env} {s : State} {m : MethodId} {args : Array Value} {below : List Frame} {meth : Method} {c : Code} {Q : State → Prop} {D : va_G} {E : Nat → ClassId} {z b L : Nat} {xs : Nat → Int32} (F : am_F p s m args meth c cL_law 9 RL D E z) (hxs : va_X b L xs s s.heap) (hbl : b < s.heap.size) (hbz : ¬ z ≤ b) (hNC : am_NC s) (hls : l.stackTraces = false) : ∀ (n : Nat) (a5 : Int32) (M : am_M) (M1 : am_M) (cl sl : Nat), cl + 10 * n ≤ 603072 → sl + 60 * n ≤ 7198826 → g_L_law_L28 xs L n a5 M = some ((), M1) → (∀ (b5 : Int32) (cl2 sl2 : Nat), cl2 ≤ 603072 → sl2 ≤ 7198826 → am_W p l e room_1 s m args below meth c Q 9 D E z cl2 sl2 M1 2507 [(0, .ref b), (1, .ref (z + 0)), (2, .ref (z + 174)), (3, .ref (z + 186)), (4, .ref (z + 187)), (5, .int b5)] []) → am_W p l e room_1 s m args below meth c Q 9 D E z cl sl M 28 [(0, .ref b), (1, .ref (z + 0)), (2, .ref (z + 174)), (3, .ref (z + 186)), (4, .ref (z + 187)), (5, .int a5)] [] := by
  intro n
  induction n with
  | zero => intro a5 M M1 cl sl _ _ h K; cases h
  | succ n ih =>
    intro a5 M M1 cl sl hc9 hs9 h K
    rw [g_L_law_L28] at h
    refine am_iload F 5 dL_law_28 rfl ?_
    refine am_aload_n F 0 dL_law_30 rfl rfl ?_
    refine am_slen F hxs hbl hbz dL_law_31 ?_
    refine am_iconst F (v := (5 : Int32)) dL_law_32 (by decide) ?_
    refine am_isub F dL_law_33 ?_
    refine am_icmp_gt F (tgt := 2507) dL_law_34 (by decide) (fun c41 => ?_) (fun c41 => ?_)
    · have h := (if_pos c41).symm.trans h
      cases h
      exact am_sub (lv' := [(0, .ref b), (1, .ref (z + 0)), (2, .ref (z + 174)), (3, .ref (z + 186)), (4, .ref (z + 187)), (5, .int a5)]) [0, 1, 2, 3, 4, 5] rfl (K a5 cl sl (by omega) (by omega))
    · have h := (if_neg c41).symm.trans h
      refine am_aload_n F 0 dL_law_37 rfl rfl ?_
      refine am_iload F 5 dL_law_38 rfl ?_
      obtain ⟨q1, h⟩ := am_ciE h
      refine am_sld F hxs hbl hbz q1 dL_law_40 ?_
      refine am_bipush F (v := (63 : Int32)) dL_law_41 (by decide) ?_
      refine am_iand F dL_law_43 ?_
      by_cases c2 : ((xs a5.toNatClampNeg) &&& (63 : Int32)) = (0 : Int32)
      · have h := (if_pos c2).symm.trans h
        refine am_tabIn F 0 (tgt := 216) dL_law_44 (by rw [c2]; decide) rfl rfl (by decide) ?_
        exact am_sub (lv' := [(0, .ref b), (1, .ref (z + 0)), (2, .ref (z + 174)), (3, .ref (z + 186)), (4, .ref (z + 187)), (5, .int a5)]) [0, 1, 2, 3, 4, 5] rfl (cj_L_law_J216 F hxs hbl hbz hNC hls (g_L_law_L28 xs L n) a5 M M1 cl sl (by omega) (by omega) h (fun b5 M2 cl2 sl2 h8 h9 h2 => ih b5 M2 _ cl2 sl2 (by omega) (by omega) h2 K))
      · have h := (if_neg c2).symm.trans h
        by_cases c3 : ((xs a5.toNatClampNeg) &&& (63 : Int32)) = (1 : Int32)
        · have h := (if_pos c3).symm.trans h
          refine am_tabIn F 1 (tgt := 229) dL_law_44 (by rw [c3]; decide) rfl rfl (by decide) ?_
          exact am_sub (lv' := [(0, .ref b), (1, .ref (z + 0)), (2, .ref (z + 174)), (3, .ref (z + 186)), (4, .ref (z + 187)), (5, .int a5)]) [0, 1, 2, 3, 4, 5] rfl (cj_L_law_J229 F hxs hbl hbz hNC hls (g_L_law_L28 xs L n) a5 M M1 cl sl (by omega) (by omega) h (fun b5 M2 cl2 sl2 h8 h9 h2 => ih b5 M2 _ cl2 sl2 (by omega) (by omega) h2 K))
        · have h := (if_neg c3).symm.trans h
          by_cases c4 : ((xs a5.toNatClampNeg) &&& (63 : Int32)) = (2 : Int32)
          · have h := (if_pos c4).symm.trans h
            refine am_tabIn F 2 (tgt := 297) dL_law_44 (by rw [c4]; decide) rfl rfl (by decide) ?_
            exact am_sub (lv' := [(0, .ref b), (1, .ref (z + 0)), (2, .ref (z + 174)), (3, .ref (z + 186)), (4, .ref (z + 187)), (5, .int a5)]) [0, 1, 2, 3, 4, 5] rfl (cj_L_law_J297 F hxs hbl hbz hNC hls (g_L_law_L28 xs L n) a5 M M1 cl sl (by omega) (by omega) h (fun b5 M2 cl2 sl2 h8 h9 h2 => ih b5 M2 _ cl2 sl2 (by omega) (by omega) h2 K))
          · have h := (if_neg c4).symm.trans h
            by_cases c5 : ((xs a5.toNatClampNeg) &&& (63 : Int32)) = (3 : Int32)
            · have h := (if_pos c5).symm.trans h
              refine am_tabIn F 3 (tgt := 353) dL_law_44 (by rw [c5]; decide) rfl rfl (by decide) ?_
              exact am_sub (lv' := [(0, .ref b), (1, .ref (z + 0)), (2, .ref (z + 174)), (3, .ref (z + 186)), (4, .ref (z + 187)), (5, .int a5)]) [0, 1, 2, 3, 4, 5] rfl (cj_L_law_J353 F hxs hbl hbz hNC hls (g_L_law_L28 xs L n) a5 M M1 cl sl (by omega) (by omega) h (fun b5 M2 cl2 sl2 h8 h9 h2 => ih b5 M2 _ cl2 sl2 (by omega) (by omega) h2 K))
            · have h := (if_neg c5).symm.trans h
              by_cases c6 : ((xs a5.toNatClampNeg) &&& (63 : Int32)) = (4 : Int32)
              · have h := (if_pos c6).symm.trans h
                refine am_tabIn F 4 (tgt := 421) dL_law_44 (by rw [c6]; decide) rfl rfl (by decide) ?_
                exact am_sub (lv' := [(0, .ref b), (1, .ref (z + 0)), (2, .ref (z + 174)), (3, .ref (z + 186)), (4, .ref (z + 187)), (5, .int a5)]) [0, 1, 2, 3, 4, 5] rfl (cj_L_law_J421 F hxs hbl hbz hNC hls (g_L_law_L28 xs L n) a5 M M1 cl sl (by omega) (by omega) h (fun b5 M2 cl2 sl2 h8 h9 h2 => ih b5 M2 _ cl2 sl2 (by omega) (by omega) h2 K))
              · have h := (if_neg c6).symm.trans h
                by_cases c7 : ((xs a5.toNatClampNeg) &&& (63 : Int32)) = (5 : Int32)
                · have h := (if_pos c7).symm.trans h
                  refine am_tabIn F 5 (tgt := 489) dL_law_44 (by rw [c7]; decide) rfl rfl (by decide) ?_
                  exact am_sub (lv' := [(0, .ref b), (1, .ref (z + 0)), (2, .ref (z + 174)), (3, .ref (z + 186)), (4, .ref (z + 187)), (5, .int a5)]) [0, 1, 2, 3, 4, 5] rfl (cj_L_law_J489 F hxs hbl hbz hNC hls (g_L_law_L28 xs L n) a5 M M1 cl sl (by omega) (by omega) h (fun b5 M2 cl2 sl2 h8 h9 h2 => ih b5 M2 _ cl2 sl2 (by omega) (by omega) h2 K))
                · have h := (if_neg c7).symm.trans h
                  by_cases c8 : ((xs a5.toNatClampNeg) &&& (63 : Int32)) = (6 : Int32)
                  · have h := (if_pos c8).symm.trans h
                    refine am_tabIn F 6 (tgt := 557) dL_law_44 (by rw [c8]; decide) rfl rfl (by decide) ?_
                    exact am_sub (lv' := [(0, .ref b), (1, .ref (z + 0)), (2, .ref (z + 174)), (3, .ref (z + 186)), (4, .ref (z + 187)), (5, .int a5)]) [0, 1, 2, 3, 4, 5] rfl (cj_L_law_J557 F hxs hbl hbz hNC hls (g_L_law_L28 xs L n) a5 M M1 cl sl (by omega) (by omega) h (fun b5 M2 cl2 sl2 h8 h9 h2 => ih b5 M2 _ cl2 sl2 (by omega) (by omega) h2 K))
                  · have h := (if_neg c8).symm.trans h
                    by_cases c9 : ((xs a5.toNatClampNeg) &&& (63 : Int32)) = (7 : Int32)
                    · have h := (if_pos c9).symm.trans h
                      refine am_tabIn F 7 (tgt := 613) dL_law_44 (by rw [c9]; decide) rfl rfl (by decide) ?_
                      exact am_sub (lv' := [(0, .ref b), (1, .ref (z + 0)), (2, .ref (z + 174)), (3, .ref (z + 186)), (4, .ref (z + 187)), (5, .int a5)]) [0, 1, 2, 3, 4, 5] rfl (cj_L_law_J613 F hxs hbl hbz hNC hls (g_L_law_L28 xs L n) a5 M M1 cl sl (by omega) (by omega) h (fun b5 M2 cl2 sl2 h8 h9 h2 => ih b5 M2 _ cl2 sl2 (by omega) (by omega) h2 K))
                    · have h := (if_neg c9).symm.trans h
                      by_cases c10 : ((xs a5.toNatClampNeg) &&& (63 : Int32)) = (8 : Int32)
                      · have h := (if_pos c10).symm.trans h
                        refine am_tabIn F 8 (tgt := 669) dL_law_44 (by rw [c10]; decide) rfl rfl (by decide) ?_
                        exact am_sub (lv' := [(0, .ref b), (1, .ref (z + 0)), (2, .ref (z + 174)), (3, .ref (z + 186)), (4, .ref (z + 187)), (5, .int a5)]) [0, 1, 2, 3, 4, 5] rfl (cj_L_law_J669 F hxs hbl hbz hNC hls (g_L_law_L28 xs L n) a5 M M1 cl sl (by omega) (by omega) h (fun b5 M2 cl2 sl2 h8 h9 h2 => ih b5 M2 _ cl2 sl2 (by omega) (by omega) h2 K))
                      · have h := (if_neg c10).symm.trans h
                        by_cases c11 : ((xs a5.toNatClampNeg) &&& (63 : Int32)) = (9 : Int32)
                        · have h := (if_pos c11).symm.trans h
                          refine am_tabIn F 9 (tgt := 737) dL_law_44 (by rw [c11]; decide) rfl rfl (by decide) ?_
                          exact am_sub (lv' := [(0, .ref b), (1, .ref (z + 0)), (2, .ref (z + 174)), (3, .ref (z + 186)), (4, .ref (z + 187)), (5, .int a5)]) [0, 1, 2, 3, 4, 5] rfl (cj_L_law_J737 F hxs hbl hbz hNC hls (g_L_law_L28 xs L n) a5 M M1 cl sl (by omega) (by omega) h (fun b5 M2 cl2 sl2 h8 h9 h2 => ih b5 M2 _ cl2 sl2 (by omega) (by omega) h2 K))
                        · have h := (if_neg c11).symm.trans h
                          by_cases c12 : ((xs a5.toNatClampNeg) &&& (63 : Int32)) = (10 : Int32)
                          · have h := (if_pos c12).symm.trans h
                            refine am_tabIn F 10 (tgt := 805) dL_law_44 (by rw [c12]; decide) rfl rfl (by decide) ?_
                            exact am_sub (lv' := [(0, .ref b), (1, .ref (z + 0)), (2, .ref (z + 174)), (3, .ref (z + 186)), (4, .ref (z + 187)), (5, .int a5)]) [0, 1, 2, 3, 4, 5] rfl (cj_L_law_J805 F hxs hbl hbz hNC hls (g_L_law_L28 xs L n) a5 M M1 cl sl (by omega) (by omega) h (fun b5 M2 cl2 sl2 h8 h9 h2 => ih b5 M2 _ cl2 sl2 (by omega) (by omega) h2 K))
                          · have h := (if_neg c12).symm.trans h
                            by_cases c13 : ((xs a5.toNatClampNeg) &&& (63 : Int32)) = (11 : Int32)
                            · have h := (if_pos c13).symm.trans h
                              refine am_tabIn F 11 (tgt := 873) dL_law_44 (by rw [c13]; decide) rfl rfl (by decide) ?_
                              exact am_sub (lv' := [(0, .ref b), (1, .ref (z + 0)), (2, .ref (z + 174)), (3, .ref (z + 186)), (4, .ref (z + 187)), (5, .int a5)]) [0, 1, 2, 3, 4, 5] rfl (cj_L_law_J873 F hxs hbl hbz hNC hls (g_L_law_L28 xs L n) a5 M M1 cl sl (by omega) (by omega) h (fun b5 M2 cl2 sl2 h8 h9 h2 => ih b5 M2 _ cl2 sl2 (by omega) (by omega) h2 K))
                            · have h := (if_neg c13).symm.trans h
                              by_cases c14 : ((xs a5.toNatClampNeg) &&& (63 : Int32)) = (12 : Int32)
                              · have h := (if_pos c14).symm.trans h
                                refine am_tabIn F 12 (tgt := 941) dL_law_44 (by rw [c14]; decide) rfl rfl (by decide) ?_
                                exact am_sub (lv' := [(0, .ref b), (1, .ref (z + 0)), (2, .ref (z + 174)), (3, .ref (z + 186)), (4, .ref (z + 187)), (5, .int a5)]) [0, 1, 2, 3, 4, 5] rfl (cj_L_law_J941 F hxs hbl hbz hNC hls (g_L_law_L28 xs L n) a5 M M1 cl sl (by omega) (by omega) h (fun b5 M2 cl2 sl2 h8 h9 h2 => ih b5 M2 _ cl2 sl2 (by omega) (by omega) h2 K))
                              · have h := (if_neg c14).symm.trans h
                                by_cases c15 : ((xs a5.toNatClampNeg) &&& (63 : Int32)) = (13 : Int32)
                                · have h := (if_pos c15).symm.trans h
                                  refine am_tabIn F 13 (tgt := 1009) dL_law_44 (by rw [c15]; decide) rfl rfl (by decide) ?_
                                  exact am_sub (lv' := [(0, .ref b), (1, .ref (z + 0)), (2, .ref (z + 174)), (3, .ref (z + 186)), (4, .ref (z + 187)), (5, .int a5)]) [0, 1, 2, 3, 4, 5] rfl (cj_L_law_J1009 F hxs hbl hbz hNC hls (g_L_law_L28 xs L n) a5 M M1 cl sl (by omega) (by omega) h (fun b5 M2 cl2 sl2 h8 h9 h2 => ih b5 M2 _ cl2 sl2 (by omega) (by omega) h2 K))
                                · have h := (if_neg c15).symm.trans h
                                  by_cases c16 : ((xs a5.toNatClampNeg) &&& (63 : Int32)) = (14 : Int32)
                                  · have h := (if_pos c16).symm.trans h
                                    refine am_tabIn F 14 (tgt := 1077) dL_law_44 (by rw [c16]; decide) rfl rfl (by decide) ?_
                                    exact am_sub (lv' := [(0, .ref b), (1, .ref (z + 0)), (2, .ref (z + 174)), (3, .ref (z + 186)), (4, .ref (z + 187)), (5, .int a5)]) [0, 1, 2, 3, 4, 5] rfl (cj_L_law_J1077 F hxs hbl hbz hNC hls (g_L_law_L28 xs L n) a5 M M1 cl sl (by omega) (by omega) h (fun b5 M2 cl2 sl2 h8 h9 h2 => ih b5 M2 _ cl2 sl2 (by omega) (by omega) h2 K))
                                  · have h := (if_neg c16).symm.trans h
                                    by_cases c17 : ((xs a5.toNatClampNeg) &&& (63 : Int32)) = (15 : Int32)
                                    · have h := (if_pos c17).symm.trans h
                                      refine am_tabIn F 15 (tgt := 1145) dL_law_44 (by rw [c17]; decide) rfl rfl (by decide) ?_
                                      exact am_sub (lv' := [(0, .ref b), (1, .ref (z + 0)), (2, .ref (z + 174)), (3, .ref (z + 186)), (4, .ref (z + 187)), (5, .int a5)]) [0, 1, 2, 3, 4, 5] rfl (cj_L_law_J1145 F hxs hbl hbz hNC hls (g_L_law_L28 xs L n) a5 M M1 cl sl (by omega) (by omega) h (fun b5 M2 cl2 sl2 h8 h9 h2 => ih b5 M2 _ cl2 sl2 (by omega) (by omega) h2 K))
                                    · have h := (if_neg c17).symm.trans h
                                      by_cases c18 : ((xs a5.toNatClampNeg) &&& (63 : Int32)) = (16 : Int32)
                                      · have h := (if_pos c18).symm.trans h
                                        refine am_tabIn F 16 (tgt := 1201) dL_law_44 (by rw [c18]; decide) rfl rfl (by decide) ?_
                                        exact am_sub (lv' := [(0, .ref b), (1, .ref (z + 0)), (2, .ref (z + 174)), (3, .ref (z + 186)), (4, .ref (z + 187)), (5, .int a5)]) [0, 1, 2, 3, 4, 5] rfl (cj_L_law_J1201 F hxs hbl hbz hNC hls (g_L_law_L28 xs L n) a5 M M1 cl sl (by omega) (by omega) h (fun b5 M2 cl2 sl2 h8 h9 h2 => ih b5 M2 _ cl2 sl2 (by omega) (by omega) h2 K))
                                      · have h := (if_neg c18).symm.trans h
                                        by_cases c19 : ((xs a5.toNatClampNeg) &&& (63 : Int32)) = (17 : Int32)
                                        · have h := (if_pos c19).symm.trans h
                                          refine am_tabIn F 17 (tgt := 1269) dL_law_44 (by rw [c19]; decide) rfl rfl (by decide) ?_
                                          exact am_sub (lv' := [(0, .ref b), (1, .ref (z + 0)), (2, .ref (z + 174)), (3, .ref (z + 186)), (4, .ref (z + 187)), (5, .int a5)]) [0, 1, 2, 3, 4, 5] rfl (cj_L_law_J1269 F hxs hbl hbz hNC hls (g_L_law_L28 xs L n) a5 M M1 cl sl (by omega) (by omega) h (fun b5 M2 cl2 sl2 h8 h9 h2 => ih b5 M2 _ cl2 sl2 (by omega) (by omega) h2 K))
                                        · have h := (if_neg c19).symm.trans h
                                          by_cases c20 : ((xs a5.toNatClampNeg) &&& (63 : Int32)) = (18 : Int32)
                                          · have h := (if_pos c20).symm.trans h
                                            refine am_tabIn F 18 (tgt := 1337) dL_law_44 (by rw [c20]; decide) rfl rfl (by decide) ?_
                                            exact am_sub (lv' := [(0, .ref b), (1, .ref (z + 0)), (2, .ref (z + 174)), (3, .ref (z + 186)), (4, .ref (z + 187)), (5, .int a5)]) [0, 1, 2, 3, 4, 5] rfl (cj_L_law_J1337 F hxs hbl hbz hNC hls (g_L_law_L28 xs L n) a5 M M1 cl sl (by omega) (by omega) h (fun b5 M2 cl2 sl2 h8 h9 h2 => ih b5 M2 _ cl2 sl2 (by omega) (by omega) h2 K))
                                          · have h := (if_neg c20).symm.trans h
                                            by_cases c21 : ((xs a5.toNatClampNeg) &&& (63 : Int32)) = (19 : Int32)
                                            · have h := (if_pos c21).symm.trans h
                                              refine am_tabIn F 19 (tgt := 1393) dL_law_44 (by rw [c21]; decide) rfl rfl (by decide) ?_
                                              exact am_sub (lv' := [(0, .ref b), (1, .ref (z + 0)), (2, .ref (z + 174)), (3, .ref (z + 186)), (4, .ref (z + 187)), (5, .int a5)]) [0, 1, 2, 3, 4, 5] rfl (cj_L_law_J1393 F hxs hbl hbz hNC hls (g_L_law_L28 xs L n) a5 M M1 cl sl (by omega) (by omega) h (fun b5 M2 cl2 sl2 h8 h9 h2 => ih b5 M2 _ cl2 sl2 (by omega) (by omega) h2 K))
                                            · have h := (if_neg c21).symm.trans h
                                              by_cases c22 : ((xs a5.toNatClampNeg) &&& (63 : Int32)) = (20 : Int32)
                                              · have h := (if_pos c22).symm.trans h
                                                refine am_tabIn F 20 (tgt := 1485) dL_law_44 (by rw [c22]; decide) rfl rfl (by decide) ?_
                                                exact am_sub (lv' := [(0, .ref b), (1, .ref (z + 0)), (2, .ref (z + 174)), (3, .ref (z + 186)), (4, .ref (z + 187)), (5, .int a5)]) [0, 1, 2, 3, 4, 5] rfl (cj_L_law_J1485 F hxs hbl hbz hNC hls (g_L_law_L28 xs L n) a5 M M1 cl sl (by omega) (by omega) h (fun b5 M2 cl2 sl2 h8 h9 h2 => ih b5 M2 _ cl2 sl2 (by omega) (by omega) h2 K))
                                              · have h := (if_neg c22).symm.trans h
                                                by_cases c23 : ((xs a5.toNatClampNeg) &&& (63 : Int32)) = (21 : Int32)
                                                · have h := (if_pos c23).symm.trans h
                                                  refine am_tabIn F 21 (tgt := 1553) dL_law_44 (by rw [c23]; decide) rfl rfl (by decide) ?_
                                                  exact am_sub (lv' := [(0, .ref b), (1, .ref (z + 0)), (2, .ref (z + 174)), (3, .ref (z + 186)), (4, .ref (z + 187)), (5, .int a5)]) [0, 1, 2, 3, 4, 5] rfl (cj_L_law_J1553 F hxs hbl hbz hNC hls (g_L_law_L28 xs L n) a5 M M1 cl sl (by omega) (by omega) h (fun b5 M2 cl2 sl2 h8 h9 h2 => ih b5 M2 _ cl2 sl2 (by omega) (by omega) h2 K))
                                                · have h := (if_neg c23).symm.trans h
                                                  by_cases c24 : ((xs a5.toNatClampNeg) &&& (63 : Int32)) = (22 : Int32)
                                                  · have h := (if_pos c24).symm.trans h
                                                    refine am_tabIn F 22 (tgt := 1609) dL_law_44 (by rw [c24]; decide) rfl rfl (by decide) ?_
                                                    exact am_sub (lv' := [(0, .ref b), (1, .ref (z + 0)), (2, .ref (z + 174)), (3, .ref (z + 186)), (4, .ref (z + 187)), (5, .int a5)]) [0, 1, 2, 3, 4, 5] rfl (cj_L_law_J1609 F hxs hbl hbz hNC hls (g_L_law_L28 xs L n) a5 M M1 cl sl (by omega) (by omega) h (fun b5 M2 cl2 sl2 h8 h9 h2 => ih b5 M2 _ cl2 sl2 (by omega) (by omega) h2 K))
                                                  · have h := (if_neg c24).symm.trans h
                                                    by_cases c25 : ((xs a5.toNatClampNeg) &&& (63 : Int32)) = (23 : Int32)
                                                    · have h := (if_pos c25).symm.trans h
                                                      refine am_tabIn F 23 (tgt := 1677) dL_law_44 (by rw [c25]; decide) rfl rfl (by decide) ?_
                                                      exact am_sub (lv' := [(0, .ref b), (1, .ref (z + 0)), (2, .ref (z + 174)), (3, .ref (z + 186)), (4, .ref (z + 187)), (5, .int a5)]) [0, 1, 2, 3, 4, 5] rfl (cj_L_law_J1677 F hxs hbl hbz hNC hls (g_L_law_L28 xs L n) a5 M M1 cl sl (by omega) (by omega) h (fun b5 M2 cl2 sl2 h8 h9 h2 => ih b5 M2 _ cl2 sl2 (by omega) (by omega) h2 K))
                                                    · have h := (if_neg c25).symm.trans h
                                                      by_cases c26 : ((xs a5.toNatClampNeg) &&& (63 : Int32)) = (24 : Int32)
                                                      · have h := (if_pos c26).symm.trans h
                                                        refine am_tabIn F 24 (tgt := 1690) dL_law_44 (by rw [c26]; decide) rfl rfl (by decide) ?_
                                                        exact am_sub (lv' := [(0, .ref b), (1, .ref (z + 0)), (2, .ref (z + 174)), (3, .ref (z + 186)), (4, .ref (z + 187)), (5, .int a5)]) [0, 1, 2, 3, 4, 5] rfl (cj_L_law_J1690 F hxs hbl hbz hNC hls (g_L_law_L28 xs L n) a5 M M1 cl sl (by omega) (by omega) h (fun b5 M2 cl2 sl2 h8 h9 h2 => ih b5 M2 _ cl2 sl2 (by omega) (by omega) h2 K))
                                                      · have h := (if_neg c26).symm.trans h
                                                        by_cases c27 : ((xs a5.toNatClampNeg) &&& (63 : Int32)) = (25 : Int32)
                                                        · have h := (if_pos c27).symm.trans h
                                                          refine am_tabIn F 25 (tgt := 1746) dL_law_44 (by rw [c27]; decide) rfl rfl (by decide) ?_
                                                          exact am_sub (lv' := [(0, .ref b), (1, .ref (z + 0)), (2, .ref (z + 174)), (3, .ref (z + 186)), (4, .ref (z + 187)), (5, .int a5)]) [0, 1, 2, 3, 4, 5] rfl (cj_L_law_J1746 F hxs hbl hbz hNC hls (g_L_law_L28 xs L n) a5 M M1 cl sl (by omega) (by omega) h (fun b5 M2 cl2 sl2 h8 h9 h2 => ih b5 M2 _ cl2 sl2 (by omega) (by omega) h2 K))
                                                        · have h := (if_neg c27).symm.trans h
                                                          by_cases c28 : ((xs a5.toNatClampNeg) &&& (63 : Int32)) = (26 : Int32)
                                                          · have h := (if_pos c28).symm.trans h
                                                            refine am_tabIn F 26 (tgt := 1802) dL_law_44 (by rw [c28]; decide) rfl rfl (by decide) ?_
                                                            exact am_sub (lv' := [(0, .ref b), (1, .ref (z + 0)), (2, .ref (z + 174)), (3, .ref (z + 186)), (4, .ref (z + 187)), (5, .int a5)]) [0, 1, 2, 3, 4, 5] rfl (cj_L_law_J1802 F hxs hbl hbz hNC hls (g_L_law_L28 xs L n) a5 M M1 cl sl (by omega) (by omega) h (fun b5 M2 cl2 sl2 h8 h9 h2 => ih b5 M2 _ cl2 sl2 (by omega) (by omega) h2 K))
                                                          · have h := (if_neg c28).symm.trans h
                                                            by_cases c29 : ((xs a5.toNatClampNeg) &&& (63 : Int32)) = (27 : Int32)
                                                            · have h := (if_pos c29).symm.trans h
                                                              refine am_tabIn F 27 (tgt := 1870) dL_law_44 (by rw [c29]; decide) rfl rfl (by decide) ?_
                                                              exact am_sub (lv' := [(0, .ref b), (1, .ref (z + 0)), (2, .ref (z + 174)), (3, .ref (z + 186)), (4, .ref (z + 187)), (5, .int a5)]) [0, 1, 2, 3, 4, 5] rfl (cj_L_law_J1870 F hxs hbl hbz hNC hls (g_L_law_L28 xs L n) a5 M M1 cl sl (by omega) (by omega) h (fun b5 M2 cl2 sl2 h8 h9 h2 => ih b5 M2 _ cl2 sl2 (by omega) (by omega) h2 K))
                                                            · have h := (if_neg c29).symm.trans h
                                                              by_cases c30 : ((xs a5.toNatClampNeg) &&& (63 : Int32)) = (28 : Int32)
                                                              · have h := (if_pos c30).symm.trans h
                                                                refine am_tabIn F 28 (tgt := 1948) dL_law_44 (by rw [c30]; decide) rfl rfl (by decide) ?_
                                                                exact am_sub (lv' := [(0, .ref b), (1, .ref (z + 0)), (2, .ref (z + 174)), (3, .ref (z + 186)), (4, .ref (z + 187)), (5, .int a5)]) [0, 1, 2, 3, 4, 5] rfl (cj_L_law_J1948 F hxs hbl hbz hNC hls (g_L_law_L28 xs L n) a5 M M1 cl sl (by omega) (by omega) h (fun b5 M2 cl2 sl2 h8 h9 h2 => ih b5 M2 _ cl2 sl2 (by omega) (by omega) h2 K))
                                                              · have h := (if_neg c30).symm.trans h
                                                                by_cases c31 : ((xs a5.toNatClampNeg) &&& (63 : Int32)) = (29 : Int32)
                                                                · have h := (if_pos c31).symm.trans h
                                                                  refine am_tabIn F 29 (tgt := 2004) dL_law_44 (by rw [c31]; decide) rfl rfl (by decide) ?_
                                                                  exact am_sub (lv' := [(0, .ref b), (1, .ref (z + 0)), (2, .ref (z + 174)), (3, .ref (z + 186)), (4, .ref (z + 187)), (5, .int a5)]) [0, 1, 2, 3, 4, 5] rfl (cj_L_law_J2004 F hxs hbl hbz hNC hls (g_L_law_L28 xs L n) a5 M M1 cl sl (by omega) (by omega) h (fun b5 M2 cl2 sl2 h8 h9 h2 => ih b5 M2 _ cl2 sl2 (by omega) (by omega) h2 K))
                                                                · have h := (if_neg c31).symm.trans h
                                                                  by_cases c32 : ((xs a5.toNatClampNeg) &&& (63 : Int32)) = (30 : Int32)
                                                                  · have h := (if_pos c32).symm.trans h
                                                                    refine am_tabIn F 30 (tgt := 2069) dL_law_44 (by rw [c32]; decide) rfl rfl (by decide) ?_
                                                                    exact am_sub (lv' := [(0, .ref b), (1, .ref (z + 0)), (2, .ref (z + 174)), (3, .ref (z + 186)), (4, .ref (z + 187)), (5, .int a5)]) [0, 1, 2, 3, 4, 5] rfl (cj_L_law_J2069 F hxs hbl hbz hNC hls (g_L_law_L28 xs L n) a5 M M1 cl sl (by omega) (by omega) h (fun b5 M2 cl2 sl2 h8 h9 h2 => ih b5 M2 _ cl2 sl2 (by omega) (by omega) h2 K))
                                                                  · have h := (if_neg c32).symm.trans h
                                                                    by_cases c33 : ((xs a5.toNatClampNeg) &&& (63 : Int32)) = (31 : Int32)
                                                                    · have h := (if_pos c33).symm.trans h
                                                                      refine am_tabIn F 31 (tgt := 2125) dL_law_44 (by rw [c33]; decide) rfl rfl (by decide) ?_
                                                                      exact am_sub (lv' := [(0, .ref b), (1, .ref (z + 0)), (2, .ref (z + 174)), (3, .ref (z + 186)), (4, .ref (z + 187)), (5, .int a5)]) [0, 1, 2, 3, 4, 5] rfl (cj_L_law_J2125 F hxs hbl hbz hNC hls (g_L_law_L28 xs L n) a5 M M1 cl sl (by omega) (by omega) h (fun b5 M2 cl2 sl2 h8 h9 h2 => ih b5 M2 _ cl2 sl2 (by omega) (by omega) h2 K))
                                                                    · have h := (if_neg c33).symm.trans h
                                                                      by_cases c34 : ((xs a5.toNatClampNeg) &&& (63 : Int32)) = (32 : Int32)
                                                                      · have h := (if_pos c34).symm.trans h
                                                                        refine am_tabIn F 32 (tgt := 2138) dL_law_44 (by rw [c34]; decide) rfl rfl (by decide) ?_
                                                                        exact am_sub (lv' := [(0, .ref b), (1, .ref (z + 0)), (2, .ref (z + 174)), (3, .ref (z + 186)), (4, .ref (z + 187)), (5, .int a5)]) [0, 1, 2, 3, 4, 5] rfl (cj_L_law_J2138 F hxs hbl hbz hNC hls (g_L_law_L28 xs L n) a5 M M1 cl sl (by omega) (by omega) h (fun b5 M2 cl2 sl2 h8 h9 h2 => ih b5 M2 _ cl2 sl2 (by omega) (by omega) h2 K))
                                                                      · have h := (if_neg c34).symm.trans h
                                                                        by_cases c35 : ((xs a5.toNatClampNeg) &&& (63 : Int32)) = (33 : Int32)
                                                                        · have h := (if_pos c35).symm.trans h
                                                                          refine am_tabIn F 33 (tgt := 2218) dL_law_44 (by rw [c35]; decide) rfl rfl (by decide) ?_
                                                                          exact am_sub (lv' := [(0, .ref b), (1, .ref (z + 0)), (2, .ref (z + 174)), (3, .ref (z + 186)), (4, .ref (z + 187)), (5, .int a5)]) [0, 1, 2, 3, 4, 5] rfl (cj_L_law_J2218 F hxs hbl hbz hNC hls (g_L_law_L28 xs L n) a5 M M1 cl sl (by omega) (by omega) h (fun b5 M2 cl2 sl2 h8 h9 h2 => ih b5 M2 _ cl2 sl2 (by omega) (by omega) h2 K))
                                                                        · have h := (if_neg c35).symm.trans h
                                                                          by_cases c36 : ((xs a5.toNatClampNeg) &&& (63 : Int32)) = (34 : Int32)
                                                                          · have h := (if_pos c36).symm.trans h
                                                                            refine am_tabIn F 34 (tgt := 2298) dL_law_44 (by rw [c36]; decide) rfl rfl (by decide) ?_
                                                                            exact am_sub (lv' := [(0, .ref b), (1, .ref (z + 0)), (2, .ref (z + 174)), (3, .ref (z + 186)), (4, .ref (z + 187)), (5, .int a5)]) [0, 1, 2, 3, 4, 5] rfl (cj_L_law_J2298 F hxs hbl hbz hNC hls (g_L_law_L28 xs L n) a5 M M1 cl sl (by omega) (by omega) h (fun b5 M2 cl2 sl2 h8 h9 h2 => ih b5 M2 _ cl2 sl2 (by omega) (by omega) h2 K))
                                                                          · have h := (if_neg c36).symm.trans h
                                                                            by_cases c37 : ((xs a5.toNatClampNeg) &&& (63 : Int32)) = (35 : Int32)
                                                                            · have h := (if_pos c37).symm.trans h
                                                                              refine am_tabIn F 35 (tgt := 2356) dL_law_44 (by rw [c37]; decide) rfl rfl (by decide) ?_
                                                                              exact am_sub (lv' := [(0, .ref b), (1, .ref (z + 0)), (2, .ref (z + 174)), (3, .ref (z + 186)), (4, .ref (z + 187)), (5, .int a5)]) [0, 1, 2, 3, 4, 5] rfl (cj_L_law_J2356 F hxs hbl hbz hNC hls (g_L_law_L28 xs L n) a5 M M1 cl sl (by omega) (by omega) h (fun b5 M2 cl2 sl2 h8 h9 h2 => ih b5 M2 _ cl2 sl2 (by omega) (by omega) h2 K))
                                                                            · have h := (if_neg c37).symm.trans h
                                                                              by_cases c38 : ((xs a5.toNatClampNeg) &&& (63 : Int32)) = (36 : Int32)
                                                                              · have h := (if_pos c38).symm.trans h
                                                                                refine am_tabIn F 36 (tgt := 2400) dL_law_44 (by rw [c38]; decide) rfl rfl (by decide) ?_
                                                                                exact am_sub (lv' := [(0, .ref b), (1, .ref (z + 0)), (2, .ref (z + 174)), (3, .ref (z + 186)), (4, .ref (z + 187)), (5, .int a5)]) [0, 1, 2, 3, 4, 5] rfl (cj_L_law_J2400 F hxs hbl hbz hNC hls (g_L_law_L28 xs L n) a5 M M1 cl sl (by omega) (by omega) h (fun b5 M2 cl2 sl2 h8 h9 h2 => ih b5 M2 _ cl2 sl2 (by omega) (by omega) h2 K))
                                                                              · have h := (if_neg c38).symm.trans h
                                                                                by_cases c39 : ((xs a5.toNatClampNeg) &&& (63 : Int32)) = (37 : Int32)
                                                                                · have h := (if_pos c39).symm.trans h
                                                                                  refine am_tabIn F 37 (tgt := 2444) dL_law_44 (by rw [c39]; decide) rfl rfl (by decide) ?_
                                                                                  exact am_sub (lv' := [(0, .ref b), (1, .ref (z + 0)), (2, .ref (z + 174)), (3, .ref (z + 186)), (4, .ref (z + 187)), (5, .int a5)]) [0, 1, 2, 3, 4, 5] rfl (cj_L_law_J2444 F hxs hbl hbz hNC hls (g_L_law_L28 xs L n) a5 M M1 cl sl (by omega) (by omega) h (fun b5 M2 cl2 sl2 h8 h9 h2 => ih b5 M2 _ cl2 sl2 (by omega) (by omega) h2 K))
                                                                                · have h := (if_neg c39).symm.trans h
                                                                                  by_cases c40 : ((xs a5.toNatClampNeg) &&& (63 : Int32)) = (38 : Int32)
                                                                                  · have h := (if_pos c40).symm.trans h
                                                                                    refine am_tabIn F 38 (tgt := 2457) dL_law_44 (by rw [c40]; decide) rfl rfl (by decide) ?_
                                                                                    exact am_sub (lv' := [(0, .ref b), (1, .ref (z + 0)), (2, .ref (z + 174)), (3, .ref (z + 186)), (4, .ref (z + 187)), (5, .int a5)]) [0, 1, 2, 3, 4, 5] rfl (cj_L_law_J2457 F hxs hbl hbz hNC hls (g_L_law_L28 xs L n) a5 M M1 cl sl (by omega) (by omega) h (fun b5 M2 cl2 sl2 h8 h9 h2 => ih b5 M2 _ cl2 sl2 (by omega) (by omega) h2 K))
                                                                                  · have h := (if_neg c40).symm.trans h
                                                                                    have hsw := am_sw (x := ((xs a5.toNatClampNeg) &&& (63 : Int32))) (lo := 0) (n := 39) (by decide) (by decide) (fun j hj => match j, hj with | 0, _ => c2 | 1, _ => c3 | 2, _ => c4 | 3, _ => c5 | 4, _ => c6 | 5, _ => c7 | 6, _ => c8 | 7, _ => c9 | 8, _ => c10 | 9, _ => c11 | 10, _ => c12 | 11, _ => c13 | 12, _ => c14 | 13, _ => c15 | 14, _ => c16 | 15, _ => c17 | 16, _ => c18 | 17, _ => c19 | 18, _ => c20 | 19, _ => c21 | 20, _ => c22 | 21, _ => c23 | 22, _ => c24 | 23, _ => c25 | 24, _ => c26 | 25, _ => c27 | 26, _ => c28 | 27, _ => c29 | 28, _ => c30 | 29, _ => c31 | 30, _ => c32 | 31, _ => c33 | 32, _ => c34 | 33, _ => c35 | 34, _ => c36 | 35, _ => c37 | 36, _ => c38 | 37, _ => c39 | 38, _ => c40 | k + 39, h => absurd h (by omega))
                                                                                    refine am_tabOut F (tgt := 2501) dL_law_44 (hsw.imp_right (fun h9 => by omega)) (by decide) ?_
                                                                                    refine am_iinc F [(5, .int (a5 + (5 : Int32))), (0, .ref b), (1, .ref (z + 0)), (2, .ref (z + 174)), (3, .ref (z + 186)), (4, .ref (z + 187))] 5 dL_law_2501 (by decide) rfl rfl rfl ?_
                                                                                    refine am_goto F (tgt := 28) dL_law_2504 (by decide) ?_
                                                                                    exact am_sub (lv' := [(0, .ref b), (1, .ref (z + 0)), (2, .ref (z + 174)), (3, .ref (z + 186)), (4, .ref (z + 187)), (5, .int (a5 + (5 : Int32)))]) [1, 2, 3, 4, 5, 0] rfl (ih (a5 + (5 : Int32)) M _ cl sl (by omega) (by omega) h K)
