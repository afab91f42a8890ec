/-! the law's wrappers: calls that may throw, caught here -/
def am_NC (U : State) : Prop := ∀ i j : Nat, 1 ≤ i → i ≤ 6 → 1 ≤ j → j ≤ 6 → i ≠ j → va_Nc (am_xn i) (am_xn j) U
theorem am_NC.moved {u U : State} (hvm : u.vm.Alike U.vm) (h : am_NC u) : am_NC U := fun i j a b c d e => (h i j a b c d e).moved hvm
def am_BPL (z : Nat) (E : Nat → ClassId) (D : va_G) (M : am_M) (U : State) : Prop := am_BP z E D M U ∧ am_NC U
theorem am_blindL {z : Nat} {E : Nat → ClassId} {D : va_G} {M : am_M} {av : List Value} : FrameBlind (va_Pc av (am_BPL z E D M)) := fun a U g mk q => ⟨q.1, ⟨q.2.1.1, q.2.1.2.same rfl rfl⟩, q.2.2.moved (Vm.Alike.refl U.vm)⟩
def am_WX (p : Program) (l : Launch) (e : Env) (R : Room) (s : State) (m : MethodId) (args : Array Value) (below : List Frame) (meth : Method) (c : Code) (Q : State → Prop) (nL : Nat) (D : va_G) (E : Nat → ClassId) (z cl sl : Nat) (M : am_M) (pc : Nat) (lv : List (Nat × Value)) (st : List Value) (E9 : String) : Prop :=
  ∀ (H : Heap) (locs : List Loc) (ls : Array Slot) (q : Nat) (ce : Cell), va_P D am_cl (am_pic z E M) H → va_S (fun q => z ≤ q) s.heap H locs → lv_has ls nL lv → H[q]? = some ce → ce.vm = .none → s.vm.findClass E9 = some ce.cls → vx_W p l e R s m args below meth c H locs cl sl Q (F0 m pc ls st) q
def am_bu {α β : Type} (o : α ⊕ Nat) (M : am_M) (k : α → am_M → Option β) (kx : Nat → am_M → Option β) : Option β := match o with
  | .inl v => k v M
  | .inr n => kx n M
def am_bt {α β : Type} (x : Option ((α ⊕ Nat) × am_M)) (k : α → am_M → Option β) (kx : Nat → am_M → Option β) : Option β := match x with
  | none => none
  | some q => am_bu q.1 q.2 k kx
theorem am_btE {α β : Type} {x : Option ((α ⊕ Nat) × am_M)} {k : α → am_M → Option β} {kx : Nat → am_M → Option β} {r : β} (h : am_bt x k kx = some r) : ∃ (o : α ⊕ Nat) (M : am_M), x = some (o, M) ∧ am_bu o M k kx = some r := by
  cases x with
  | none => cases h
  | some q => exact ⟨q.1, q.2, rfl, h⟩
abbrev am_wsL (y : MethodName) (b : ByteArray) (n : Nat) (ret : Option FieldType) (hh : List (Nat × Nat × Nat × Nat)) : List Cond := .codeWith y b n ret hh :: am_TB
abbrev am_Li (l : Launch) (y : MethodName) (b : ByteArray) (maxL : Nat) (ret : Option FieldType) (hh : List (Nat × Nat × Nat × Nat)) (rm : Room) (D : va_G) (E : Nat → ClassId) (z : Nat) (av : List Value) (M : am_M) (mc ms : Nat) (r0 : Int32) (M1 : am_M) : Prop := Met l y (am_wsL y b maxL ret hh) rm (va_Pc av (am_BPL z E D M)) (va_Qi (fun (r9 : Int32) (u : am_M) => r9 = r0 ∧ u = M1) (am_BQ z E D) (fun q => z ≤ q)) mc ms (fun q => z ≤ q)
def am_CSW (own : String) (i : Nat) (y : MethodName) (b : ByteArray) (n : Nat) (ret : Option FieldType) (hh : List (Nat × Nat × Nat × Nat)) : Prop := Cond.methodLink own i y ∈ am_TB ∧ Cond.static y ∈ am_TB ∧ Cond.initialized y.cls ∈ am_TB ∧ Cond.codeWith y b n ret hh ∈ am_TB
theorem am_dg_s {M : am_M} {a k : Nat} {v : UInt64} : am_dg (am_ds M a k v) a = vf_upd (am_dg M a) k v := by
  funext j
  simp [am_dg, am_ds, vf_upd]
section AML
variable {p : Program} {l : Launch} {e : Env} {R : Room} {s : State} {m : MethodId} {args : Array Value} {below : List Frame} {meth : Method} {c : Code} {Q : State → Prop} {cc : ByteArray} {nL : Nat} {own : String} {D : va_G} {E : Nat → ClassId} {z cl sl : Nat} {M : am_M} {pc : Nat} {lv : List (Nat × Value)} {st : List Value}
theorem am_tcallVi {γ : Type} {res : γ} (F : am_F p s m args meth c cc nL own D E z) {y : MethodName} {b : ByteArray} {n maxL : Nat} {ret : Option FieldType} {rm : Room} (As : List Value) {i mc ms : Nat} {o : Int32 ⊕ Nat} {M1 : am_M} {C : String} {T : u_T} {N ci r : Nat} (hly : am_ly r = (ci, 0)) (hci : ci < 20) (hc : am_cl[ci]? = some (C, T, N)) (cw : am_CV own i C y b maxL ret) (hM : am_Xi l y b maxL ret rm D E z (.ref (z + r) :: As) M mc ms o M1) (hy : am_yn y n) (hn : As.length = n) (hR : rm.frames + 1 ≤ R.frames ∧ 8 + (maxL + 11) + rm.locals ≤ R.locals) (hrc : rm.cells = mc) (hrs : rm.slots = ms) (hst : (st.map fun v => v.category).sum ≤ 8) (hcs : cl + mc ≤ R.cells ∧ sl + ms ≤ R.slots) (d : decode cc pc = .ok (.invokevirtual i, 3)) {st0 : List Value} (hs0 : st0 = As.reverse ++ .ref (z + r) :: st) {K : Int32 → am_M → Option γ} {KX : Nat → am_M → Option γ} (h : am_bu o M1 K KX = some res) (k : ∀ v : Int32, K v M1 = some res → am_W p l e R s m args below meth c Q nL D E z (cl + mc) (sl + ms) M1 (pc + 3) lv (.int v :: st)) (kx : ∀ j : Nat, KX j M1 = some res → am_WX p l e R s m args below meth c Q nL D E z (cl + mc) (sl + ms) M1 pc lv st (am_xn j)) : am_W p l e R s m args below meth c Q nL D E z cl sl M pc lv st0 := by
  subst hs0
  exact fun H locs ls hP hS hl => vx_calli (am_xrunV F hly hci hc cw hM hy hn hR hrc hrs hst hcs hP hS hl.1 d) hS (fun q _ h => h) (fun q h => h) (fun q _ h => h) (fun E9 ce q9 u t H1 locs1 ht _ hp hb _ _ hS1 hcell hv hcl => by
    subst hp
    obtain ⟨e1, hb⟩ := hb
    subst e1
    exact kx u h H1 locs1 ls q9 ce (by rw [← ht]; exact hb) hS1 hl hcell hv hcl) (fun r9 u t H1 locs1 ht _ hp hb _ _ hS1 => by
    obtain ⟨e1, e2⟩ := hp; subst e1; subst e2
    exact k r9 h H1 locs1 ls (by rw [← ht]; exact hb) hS1 hl)
theorem am_tcallVf {γ : Type} {res : γ} (F : am_F p s m args meth c cc nL own D E z) {y : MethodName} {b : ByteArray} {n maxL : Nat} {ret : Option FieldType} {rm : Room} (As : List Value) {i mc ms : Nat} {o : UInt32 ⊕ Nat} {M1 : am_M} {C : String} {T : u_T} {N ci r : Nat} (hly : am_ly r = (ci, 0)) (hci : ci < 20) (hc : am_cl[ci]? = some (C, T, N)) (cw : am_CV own i C y b maxL ret) (hM : am_Xf l y b maxL ret rm D E z (.ref (z + r) :: As) M mc ms o M1) (hy : am_yn y n) (hn : As.length = n) (hR : rm.frames + 1 ≤ R.frames ∧ 8 + (maxL + 11) + rm.locals ≤ R.locals) (hrc : rm.cells = mc) (hrs : rm.slots = ms) (hst : (st.map fun v => v.category).sum ≤ 8) (hcs : cl + mc ≤ R.cells ∧ sl + ms ≤ R.slots) (d : decode cc pc = .ok (.invokevirtual i, 3)) {st0 : List Value} (hs0 : st0 = As.reverse ++ .ref (z + r) :: st) {K : UInt32 → am_M → Option γ} {KX : Nat → am_M → Option γ} (h : am_bu o M1 K KX = some res) (k : ∀ v : UInt32, K v M1 = some res → am_W p l e R s m args below meth c Q nL D E z (cl + mc) (sl + ms) M1 (pc + 3) lv (.float v :: st)) (kx : ∀ j : Nat, KX j M1 = some res → am_WX p l e R s m args below meth c Q nL D E z (cl + mc) (sl + ms) M1 pc lv st (am_xn j)) : am_W p l e R s m args below meth c Q nL D E z cl sl M pc lv st0 := by
  subst hs0
  exact fun H locs ls hP hS hl => vx_callf (am_xrunV F hly hci hc cw hM hy hn hR hrc hrs hst hcs hP hS hl.1 d) hS (fun q _ h => h) (fun q h => h) (fun q _ h => h) (fun E9 ce q9 u t H1 locs1 ht _ hp hb _ _ hS1 hcell hv hcl => by
    subst hp
    obtain ⟨e1, hb⟩ := hb
    subst e1
    exact kx u h H1 locs1 ls q9 ce (by rw [← ht]; exact hb) hS1 hl hcell hv hcl) (fun r9 u t H1 locs1 ht _ hp hb _ _ hS1 => by
    obtain ⟨e1, e2⟩ := hp; subst e1; subst e2
    exact k r9 h H1 locs1 ls (by rw [← ht]; exact hb) hS1 hl)
theorem am_tcallVd {γ : Type} {res : γ} (F : am_F p s m args meth c cc nL own D E z) {y : MethodName} {b : ByteArray} {n maxL : Nat} {ret : Option FieldType} {rm : Room} (As : List Value) {i mc ms : Nat} {o : UInt64 ⊕ Nat} {M1 : am_M} {C : String} {T : u_T} {N ci r : Nat} (hly : am_ly r = (ci, 0)) (hci : ci < 20) (hc : am_cl[ci]? = some (C, T, N)) (cw : am_CV own i C y b maxL ret) (hM : am_Xd l y b maxL ret rm D E z (.ref (z + r) :: As) M mc ms o M1) (hy : am_yn y n) (hn : As.length = n) (hR : rm.frames + 1 ≤ R.frames ∧ 8 + (maxL + 11) + rm.locals ≤ R.locals) (hrc : rm.cells = mc) (hrs : rm.slots = ms) (hst : (st.map fun v => v.category).sum ≤ 8) (hcs : cl + mc ≤ R.cells ∧ sl + ms ≤ R.slots) (d : decode cc pc = .ok (.invokevirtual i, 3)) {st0 : List Value} (hs0 : st0 = As.reverse ++ .ref (z + r) :: st) {K : UInt64 → am_M → Option γ} {KX : Nat → am_M → Option γ} (h : am_bu o M1 K KX = some res) (k : ∀ v : UInt64, K v M1 = some res → am_W p l e R s m args below meth c Q nL D E z (cl + mc) (sl + ms) M1 (pc + 3) lv (.double v :: st)) (kx : ∀ j : Nat, KX j M1 = some res → am_WX p l e R s m args below meth c Q nL D E z (cl + mc) (sl + ms) M1 pc lv st (am_xn j)) : am_W p l e R s m args below meth c Q nL D E z cl sl M pc lv st0 := by
  subst hs0
  exact fun H locs ls hP hS hl => vx_calld (am_xrunV F hly hci hc cw hM hy hn hR hrc hrs hst hcs hP hS hl.1 d) hS (fun q _ h => h) (fun q h => h) (fun q _ h => h) (fun E9 ce q9 u t H1 locs1 ht _ hp hb _ _ hS1 hcell hv hcl => by
    subst hp
    obtain ⟨e1, hb⟩ := hb
    subst e1
    exact kx u h H1 locs1 ls q9 ce (by rw [← ht]; exact hb) hS1 hl hcell hv hcl) (fun r9 u t H1 locs1 ht _ hp hb _ _ hS1 => by
    obtain ⟨e1, e2⟩ := hp; subst e1; subst e2
    exact k r9 h H1 locs1 ls (by rw [← ht]; exact hb) hS1 hl)
/-- caught: by the row x of the table, past rows of other classes -/
theorem am_catch (F : am_F p s m args meth c cc nL own D E z) (hNC : am_NC s) {hh : List (Nat × Nat × Nat × Nat)} (hT : c.exceptionTable.toList = tableOf hh) {j : Nat} (hj : 1 ≤ j ∧ j ≤ 6) (pre : List ExceptionTableEntry) (x : ExceptionTableEntry) (suf : List ExceptionTableEntry) (hsp : tableOf hh = pre ++ x :: suf) (hp : ∀ z ∈ pre, z.catchType ≠ 0 ∧ ∃ i : Nat, 1 ≤ i ∧ i ≤ 6 ∧ j ≠ i ∧ Cond.classLink own z.catchType (am_xn i) ∈ am_TB) (hx : covers x pc = true) (h0 : x.catchType ≠ 0) (w : Cond.classLink own x.catchType (am_xn j) ∈ am_TB) (hcast : Cond.castable (am_xn j) (am_xn j) ∈ am_NB) (k : ∀ q : Nat, am_W p l e R s m args below meth c Q nL D E z cl sl M x.handlerPc lv [.ref q]) : am_WX p l e R s m args below meth c Q nL D E z cl sl M pc lv st (am_xn j) := fun H locs ls q ce hP hS hl hcell hv hcl =>
  vx_catch F.2.2.2.1 pre x suf (hT.trans hsp) (fun z hz => Or.inr (by
    obtain ⟨a1, i, a2, a3, a4, a5⟩ := hp z hz
    exact ⟨a1, am_xn i, F.2.2.2.2.1 _ a5, hNC j i hj.1 hj.2 a2 a3 a4⟩)) hx h0 (F.2.2.2.2.1 _ w) (va_Nw.use rfl (F.2.2.2.2.2.1.2.1 _ hcast)) hcell hv hcl (k q H locs ls hP hS hl)
theorem am_dast (F : am_F p s m args meth c cc nL own D E z) {r n : Nat} {i : Int32} {x : UInt64} (hly : am_ly r = (25, n)) (hin : vp_in i n) (d : decode cc pc = .ok (.dastore, 1)) (k : am_W p l e R s m args below meth c Q nL D E z cl sl (am_ds M r i.toNatClampNeg x) (pc + 1) lv st) : am_W p l e R s m args below meth c Q nL D E z cl sl M pc lv (.double x :: .int i :: .ref (z + r) :: st) := fun H locs ls hP hS hl => va_dast (D := D) F.1 F.2.1 F.2.2.2.2.2.1.1 hP am_D hS r 5 (am_arr hly (by decide) (by decide)) rfl hin d (fun H1 locs1 hP1 _ hS1 => k H1 locs1 ls (by rw [am_pic_set (M' := am_ds M r i.toNatClampNeg x) (am_ly_lt hly (by show (25 : Nat) < 99; decide)) (by rw [hly]; simp [am_ce, am_av, am_dg_s, vf_upd]) (fun a _ ha => am_ce_ds ha)] at hP1; exact hP1) hS1 hl)
theorem am_liret {mcF msF : Nat} (F : am_F p s m args meth c cc nL own D E z) {v r0 : Int32} {M1 : am_M} (hr : meth.sig.returnType = some .int) (hcF : cl ≤ mcF ∧ sl ≤ msF) (h : some (v, M) = some (r0, M1)) (d : decode cc pc = .ok (.ireturn, 1)) : am_W p l e R s m args below meth c (MQ below (va_Qi (fun (r9 : Int32) (u : am_M) => r9 = r0 ∧ u = M1) (am_BQ z E D) (fun q => z ≤ q)) args s mcF msF (fun q => z ≤ q)) nL D E z cl sl M pc lv [.int v] := by
  obtain ⟨rfl, rfl⟩ : v = r0 ∧ M = M1 := by cases h; exact ⟨rfl, rfl⟩
  exact fun H locs ls hP hS hl => W.widen hcF.1 hcF.2 (W.iret F.1 F.2.1 hr (fun t ht hW => ⟨⟨v, M, rfl, ⟨rfl, rfl⟩, by unfold am_BQ; rw [ht]; exact hP⟩, hS.F ht⟩) hS.2.2 d F.2.2.2.2.2.2)
theorem am_lof {y : MethodName} {b : ByteArray} {maxL : Nat} {ret : Option FieldType} {hh : List (Nat × Nat × Nat × Nat)} {rm : Room} {Qc : Array Value → State → Outcome → State → Prop} {av : List Value} {mc ms : Nat} (hy : plainName y.cls = true) (hyo : y.cls = own) (hlen : (lg_sl av).length ≤ maxL)
    (body : ∀ (p : Program) (e : Env) (s : State) (m : MethodId) (args : Array Value) (below : List Frame) (meth : Method) (c : Code), am_F p s m args meth c b maxL own D E z → meth.sig.returnType = ret → am_NC s → c.exceptionTable.toList = tableOf hh → am_W p l e rm s m args below meth c (MQ below Qc args s mc ms (fun q => z ≤ q)) maxL D E z 0 0 M 0 (lv_args 0 av) []) : Met l y (am_wsL y b maxL ret hh) rm (va_Pc av (am_BPL z E D M)) Qc mc ms (fun q => z ≤ q) := by
  refine va_MetW (cc := b) (maxL := maxL) (ret := ret) (hh := hh) hy rfl ?_
  intro p e s m args below meth c s₁ B hml hv
  obtain ⟨rfl, ⟨hP, hT⟩, hN⟩ := hv
  have hts := atoms_spec (ws := am_wsL y b maxL ret hh) B.pre
  have hown : s.vm.findClass own = some m.cls := by rw [← hyo]; exact findClass_of_methodNamed B.named
  have hl := lv_entry av (n := maxL) hlen
  have hF : am_F p s m av.toArray meth c b maxL own D E z := ⟨B.exec, B.bytes, hml, hown, fun w hw => hts w (List.mem_cons_of_mem _ hw), hT, B.notSynchronized⟩
  rw [lg_entry_eq]
  exact body p e s m av.toArray below meth c hF B.returns hN (vx_table (x := y) B (hts _ List.mem_cons_self)) s.heap [] _ hP va_S.rf hl
end AML
theorem lyk_186 : am_ly 186 = (21, 1) := by decide +kernel
theorem lyk_187 : am_ly 187 = (25, 1) := by decide +kernel
theorem wd_593 : (Jvm.Cond.classLink "AisleSchedulerLaw" (13 : Nat) "java/lang/IndexOutOfBoundsException") ∈ am_TB := am_tb1 593 (by decide +kernel) (by decide +kernel)
theorem wd_673 : (Jvm.Cond.classLink "AisleSchedulerLaw" (15 : Nat) "java/lang/IllegalArgumentException") ∈ am_TB := am_tb1 673 (by decide +kernel) (by decide +kernel)
theorem wd_674 : (Jvm.Cond.classLink "AisleSchedulerLaw" (17 : Nat) "java/lang/IllegalStateException") ∈ am_TB := am_tb1 674 (by decide +kernel) (by decide +kernel)
theorem wd_675 : (Jvm.Cond.methodLink "AisleSchedulerLaw" (7 : Nat) ({ cls := "AisleScheduler", name := "setCell", desc := "(II)I" } : Jvm.MethodName)) ∈ am_TB := am_tb1 675 (by decide +kernel) (by decide +kernel)
theorem wd_676 : (Jvm.Cond.instanceMethod ({ cls := "AisleScheduler", name := "setCell", desc := "(II)I" } : Jvm.MethodName)) ∈ am_TB := am_tb1 676 (by decide +kernel) (by decide +kernel)
theorem wd_677 : (Jvm.Cond.selects "AisleScheduler" ({ cls := "AisleScheduler", name := "setCell", desc := "(II)I" } : Jvm.MethodName) ({ cls := "AisleScheduler", name := "setCell", desc := "(II)I" } : Jvm.MethodName)) ∈ am_TB := am_tb1 677 (by decide +kernel) (by decide +kernel)
theorem wd_678 : (Jvm.Cond.code ({ cls := "AisleScheduler", name := "setCell", desc := "(II)I" } : Jvm.MethodName) prog_1_method_3_code (4 : Nat) (Option.some Jvm.ClassFile.FieldType.int)) ∈ am_TB := am_tb1 678 (by decide +kernel) (by decide +kernel)
theorem wd_746 : (Jvm.Cond.methodLink "AisleSchedulerLaw" (19 : Nat) ({ cls := "AisleScheduler", name := "cell", desc := "(I)I" } : Jvm.MethodName)) ∈ am_TB := am_tb1 746 (by decide +kernel) (by decide +kernel)
theorem wd_747 : (Jvm.Cond.instanceMethod ({ cls := "AisleScheduler", name := "cell", desc := "(I)I" } : Jvm.MethodName)) ∈ am_TB := am_tb1 747 (by decide +kernel) (by decide +kernel)
theorem wd_748 : (Jvm.Cond.selects "AisleScheduler" ({ cls := "AisleScheduler", name := "cell", desc := "(I)I" } : Jvm.MethodName) ({ cls := "AisleScheduler", name := "cell", desc := "(I)I" } : Jvm.MethodName)) ∈ am_TB := am_tb1 748 (by decide +kernel) (by decide +kernel)
theorem wd_749 : (Jvm.Cond.code ({ cls := "AisleScheduler", name := "cell", desc := "(I)I" } : Jvm.MethodName) prog_1_method_4_code (2 : Nat) (Option.some Jvm.ClassFile.FieldType.int)) ∈ am_TB := am_tb1 749 (by decide +kernel) (by decide +kernel)
theorem wd_757 : (Jvm.Cond.methodLink "AisleSchedulerLaw" (23 : Nat) ({ cls := "AisleScheduler", name := "addLift", desc := "(II)I" } : Jvm.MethodName)) ∈ am_TB := am_tb1 757 (by decide +kernel) (by decide +kernel)
theorem wd_758 : (Jvm.Cond.instanceMethod ({ cls := "AisleScheduler", name := "addLift", desc := "(II)I" } : Jvm.MethodName)) ∈ am_TB := am_tb1 758 (by decide +kernel) (by decide +kernel)
theorem wd_759 : (Jvm.Cond.selects "AisleScheduler" ({ cls := "AisleScheduler", name := "addLift", desc := "(II)I" } : Jvm.MethodName) ({ cls := "AisleScheduler", name := "addLift", desc := "(II)I" } : Jvm.MethodName)) ∈ am_TB := am_tb1 759 (by decide +kernel) (by decide +kernel)
theorem wd_760 : (Jvm.Cond.code ({ cls := "AisleScheduler", name := "addLift", desc := "(II)I" } : Jvm.MethodName) prog_1_method_5_code (3 : Nat) (Option.some Jvm.ClassFile.FieldType.int)) ∈ am_TB := am_tb1 760 (by decide +kernel) (by decide +kernel)
theorem wd_773 : (Jvm.Cond.methodLink "AisleSchedulerLaw" (26 : Nat) ({ cls := "AisleScheduler", name := "addRobot", desc := "(II)I" } : Jvm.MethodName)) ∈ am_TB := am_tb1 773 (by decide +kernel) (by decide +kernel)
theorem wd_774 : (Jvm.Cond.instanceMethod ({ cls := "AisleScheduler", name := "addRobot", desc := "(II)I" } : Jvm.MethodName)) ∈ am_TB := am_tb1 774 (by decide +kernel) (by decide +kernel)
theorem wd_775 : (Jvm.Cond.selects "AisleScheduler" ({ cls := "AisleScheduler", name := "addRobot", desc := "(II)I" } : Jvm.MethodName) ({ cls := "AisleScheduler", name := "addRobot", desc := "(II)I" } : Jvm.MethodName)) ∈ am_TB := am_tb1 775 (by decide +kernel) (by decide +kernel)
theorem wd_776 : (Jvm.Cond.code ({ cls := "AisleScheduler", name := "addRobot", desc := "(II)I" } : Jvm.MethodName) prog_1_method_6_code (3 : Nat) (Option.some Jvm.ClassFile.FieldType.int)) ∈ am_TB := am_tb1 776 (by decide +kernel) (by decide +kernel)
theorem wd_790 : (Jvm.Cond.methodLink "AisleSchedulerLaw" (29 : Nat) ({ cls := "AisleScheduler", name := "robot", desc := "(II)I" } : Jvm.MethodName)) ∈ am_TB := am_tb1 790 (by decide +kernel) (by decide +kernel)
theorem wd_791 : (Jvm.Cond.instanceMethod ({ cls := "AisleScheduler", name := "robot", desc := "(II)I" } : Jvm.MethodName)) ∈ am_TB := am_tb1 791 (by decide +kernel) (by decide +kernel)
theorem wd_792 : (Jvm.Cond.selects "AisleScheduler" ({ cls := "AisleScheduler", name := "robot", desc := "(II)I" } : Jvm.MethodName) ({ cls := "AisleScheduler", name := "robot", desc := "(II)I" } : Jvm.MethodName)) ∈ am_TB := am_tb1 792 (by decide +kernel) (by decide +kernel)
theorem wd_793 : (Jvm.Cond.code ({ cls := "AisleScheduler", name := "robot", desc := "(II)I" } : Jvm.MethodName) prog_1_method_7_code (5 : Nat) (Option.some Jvm.ClassFile.FieldType.int)) ∈ am_TB := am_tb1 793 (by decide +kernel) (by decide +kernel)
theorem wd_815 : (Jvm.Cond.methodLink "AisleSchedulerLaw" (32 : Nat) ({ cls := "AisleScheduler", name := "count", desc := "(I)I" } : Jvm.MethodName)) ∈ am_TB := am_tb1 815 (by decide +kernel) (by decide +kernel)
theorem wd_816 : (Jvm.Cond.instanceMethod ({ cls := "AisleScheduler", name := "count", desc := "(I)I" } : Jvm.MethodName)) ∈ am_TB := am_tb1 816 (by decide +kernel) (by decide +kernel)
theorem wd_817 : (Jvm.Cond.selects "AisleScheduler" ({ cls := "AisleScheduler", name := "count", desc := "(I)I" } : Jvm.MethodName) ({ cls := "AisleScheduler", name := "count", desc := "(I)I" } : Jvm.MethodName)) ∈ am_TB := am_tb1 817 (by decide +kernel) (by decide +kernel)
theorem wd_818 : (Jvm.Cond.code ({ cls := "AisleScheduler", name := "count", desc := "(I)I" } : Jvm.MethodName) prog_1_method_8_code (2 : Nat) (Option.some Jvm.ClassFile.FieldType.int)) ∈ am_TB := am_tb1 818 (by decide +kernel) (by decide +kernel)
theorem wd_826 : (Jvm.Cond.methodLink "AisleSchedulerLaw" (35 : Nat) ({ cls := "AisleScheduler", name := "region", desc := "(I)I" } : Jvm.MethodName)) ∈ am_TB := am_tb1 826 (by decide +kernel) (by decide +kernel)
theorem wd_827 : (Jvm.Cond.instanceMethod ({ cls := "AisleScheduler", name := "region", desc := "(I)I" } : Jvm.MethodName)) ∈ am_TB := am_tb1 827 (by decide +kernel) (by decide +kernel)
theorem wd_828 : (Jvm.Cond.selects "AisleScheduler" ({ cls := "AisleScheduler", name := "region", desc := "(I)I" } : Jvm.MethodName) ({ cls := "AisleScheduler", name := "region", desc := "(I)I" } : Jvm.MethodName)) ∈ am_TB := am_tb1 828 (by decide +kernel) (by decide +kernel)
theorem wd_829 : (Jvm.Cond.code ({ cls := "AisleScheduler", name := "region", desc := "(I)I" } : Jvm.MethodName) prog_1_method_9_code (2 : Nat) (Option.some Jvm.ClassFile.FieldType.int)) ∈ am_TB := am_tb1 829 (by decide +kernel) (by decide +kernel)
theorem wd_847 : (Jvm.Cond.classLink "AisleSchedulerLaw" (41 : Nat) "java/util/NoSuchElementException") ∈ am_TB := am_tb1 847 (by decide +kernel) (by decide +kernel)
theorem wd_848 : (Jvm.Cond.methodLink "AisleSchedulerLaw" (38 : Nat) ({ cls := "AisleScheduler", name := "ticksBetween", desc := "(II)I" } : Jvm.MethodName)) ∈ am_TB := am_tb1 848 (by decide +kernel) (by decide +kernel)
theorem wd_849 : (Jvm.Cond.instanceMethod ({ cls := "AisleScheduler", name := "ticksBetween", desc := "(II)I" } : Jvm.MethodName)) ∈ am_TB := am_tb1 849 (by decide +kernel) (by decide +kernel)
theorem wd_850 : (Jvm.Cond.selects "AisleScheduler" ({ cls := "AisleScheduler", name := "ticksBetween", desc := "(II)I" } : Jvm.MethodName) ({ cls := "AisleScheduler", name := "ticksBetween", desc := "(II)I" } : Jvm.MethodName)) ∈ am_TB := am_tb1 850 (by decide +kernel) (by decide +kernel)
theorem wd_851 : (Jvm.Cond.code ({ cls := "AisleScheduler", name := "ticksBetween", desc := "(II)I" } : Jvm.MethodName) prog_1_method_10_code (4 : Nat) (Option.some Jvm.ClassFile.FieldType.int)) ∈ am_TB := am_tb1 851 (by decide +kernel) (by decide +kernel)
theorem wd_876 : (Jvm.Cond.classLink "AisleSchedulerLaw" (46 : Nat) "java/lang/UnsupportedOperationException") ∈ am_TB := am_tb1 876 (by decide +kernel) (by decide +kernel)
theorem wd_877 : (Jvm.Cond.methodLink "AisleSchedulerLaw" (43 : Nat) ({ cls := "AisleScheduler", name := "plan", desc := "(II)I" } : Jvm.MethodName)) ∈ am_TB := am_tb1 877 (by decide +kernel) (by decide +kernel)
theorem wd_878 : (Jvm.Cond.instanceMethod ({ cls := "AisleScheduler", name := "plan", desc := "(II)I" } : Jvm.MethodName)) ∈ am_TB := am_tb1 878 (by decide +kernel) (by decide +kernel)
theorem wd_879 : (Jvm.Cond.selects "AisleScheduler" ({ cls := "AisleScheduler", name := "plan", desc := "(II)I" } : Jvm.MethodName) ({ cls := "AisleScheduler", name := "plan", desc := "(II)I" } : Jvm.MethodName)) ∈ am_TB := am_tb1 879 (by decide +kernel) (by decide +kernel)
theorem wd_880 : (Jvm.Cond.code ({ cls := "AisleScheduler", name := "plan", desc := "(II)I" } : Jvm.MethodName) prog_1_method_11_code (3 : Nat) (Option.some Jvm.ClassFile.FieldType.int)) ∈ am_TB := am_tb1 880 (by decide +kernel) (by decide +kernel)
theorem wd_917 : (Jvm.Cond.methodLink "AisleSchedulerLaw" (48 : Nat) ({ cls := "AisleScheduler", name := "arrival", desc := "(II)I" } : Jvm.MethodName)) ∈ am_TB := am_tb1 917 (by decide +kernel) (by decide +kernel)
theorem wd_918 : (Jvm.Cond.instanceMethod ({ cls := "AisleScheduler", name := "arrival", desc := "(II)I" } : Jvm.MethodName)) ∈ am_TB := am_tb1 918 (by decide +kernel) (by decide +kernel)
theorem wd_919 : (Jvm.Cond.selects "AisleScheduler" ({ cls := "AisleScheduler", name := "arrival", desc := "(II)I" } : Jvm.MethodName) ({ cls := "AisleScheduler", name := "arrival", desc := "(II)I" } : Jvm.MethodName)) ∈ am_TB := am_tb1 919 (by decide +kernel) (by decide +kernel)
theorem wd_920 : (Jvm.Cond.code ({ cls := "AisleScheduler", name := "arrival", desc := "(II)I" } : Jvm.MethodName) prog_1_method_12_code (3 : Nat) (Option.some Jvm.ClassFile.FieldType.int)) ∈ am_TB := am_tb1 920 (by decide +kernel) (by decide +kernel)
theorem wd_924 : (Jvm.Cond.methodLink "AisleSchedulerLaw" (51 : Nat) ({ cls := "AisleScheduler", name := "routeCost", desc := "(II)I" } : Jvm.MethodName)) ∈ am_TB := am_tb1 924 (by decide +kernel) (by decide +kernel)
theorem wd_925 : (Jvm.Cond.instanceMethod ({ cls := "AisleScheduler", name := "routeCost", desc := "(II)I" } : Jvm.MethodName)) ∈ am_TB := am_tb1 925 (by decide +kernel) (by decide +kernel)
theorem wd_926 : (Jvm.Cond.selects "AisleScheduler" ({ cls := "AisleScheduler", name := "routeCost", desc := "(II)I" } : Jvm.MethodName) ({ cls := "AisleScheduler", name := "routeCost", desc := "(II)I" } : Jvm.MethodName)) ∈ am_TB := am_tb1 926 (by decide +kernel) (by decide +kernel)
theorem wd_927 : (Jvm.Cond.code ({ cls := "AisleScheduler", name := "routeCost", desc := "(II)I" } : Jvm.MethodName) prog_1_method_13_code (3 : Nat) (Option.some Jvm.ClassFile.FieldType.int)) ∈ am_TB := am_tb1 927 (by decide +kernel) (by decide +kernel)
theorem wd_931 : (Jvm.Cond.methodLink "AisleSchedulerLaw" (54 : Nat) ({ cls := "AisleScheduler", name := "action", desc := "(II)I" } : Jvm.MethodName)) ∈ am_TB := am_tb1 931 (by decide +kernel) (by decide +kernel)
theorem wd_932 : (Jvm.Cond.instanceMethod ({ cls := "AisleScheduler", name := "action", desc := "(II)I" } : Jvm.MethodName)) ∈ am_TB := am_tb1 932 (by decide +kernel) (by decide +kernel)
theorem wd_933 : (Jvm.Cond.selects "AisleScheduler" ({ cls := "AisleScheduler", name := "action", desc := "(II)I" } : Jvm.MethodName) ({ cls := "AisleScheduler", name := "action", desc := "(II)I" } : Jvm.MethodName)) ∈ am_TB := am_tb1 933 (by decide +kernel) (by decide +kernel)
theorem wd_934 : (Jvm.Cond.code ({ cls := "AisleScheduler", name := "action", desc := "(II)I" } : Jvm.MethodName) prog_1_method_14_code (4 : Nat) (Option.some Jvm.ClassFile.FieldType.int)) ∈ am_TB := am_tb1 934 (by decide +kernel) (by decide +kernel)
theorem wd_943 : (Jvm.Cond.methodLink "AisleSchedulerLaw" (57 : Nat) ({ cls := "AisleScheduler", name := "cellAfter", desc := "(II)I" } : Jvm.MethodName)) ∈ am_TB := am_tb1 943 (by decide +kernel) (by decide +kernel)
theorem wd_944 : (Jvm.Cond.instanceMethod ({ cls := "AisleScheduler", name := "cellAfter", desc := "(II)I" } : Jvm.MethodName)) ∈ am_TB := am_tb1 944 (by decide +kernel) (by decide +kernel)
theorem wd_945 : (Jvm.Cond.selects "AisleScheduler" ({ cls := "AisleScheduler", name := "cellAfter", desc := "(II)I" } : Jvm.MethodName) ({ cls := "AisleScheduler", name := "cellAfter", desc := "(II)I" } : Jvm.MethodName)) ∈ am_TB := am_tb1 945 (by decide +kernel) (by decide +kernel)
theorem wd_946 : (Jvm.Cond.code ({ cls := "AisleScheduler", name := "cellAfter", desc := "(II)I" } : Jvm.MethodName) prog_1_method_15_code (3 : Nat) (Option.some Jvm.ClassFile.FieldType.int)) ∈ am_TB := am_tb1 946 (by decide +kernel) (by decide +kernel)
theorem wd_954 : (Jvm.Cond.methodLink "AisleSchedulerLaw" (60 : Nat) ({ cls := "AisleScheduler", name := "robotAt", desc := "(II)I" } : Jvm.MethodName)) ∈ am_TB := am_tb1 954 (by decide +kernel) (by decide +kernel)
theorem wd_955 : (Jvm.Cond.instanceMethod ({ cls := "AisleScheduler", name := "robotAt", desc := "(II)I" } : Jvm.MethodName)) ∈ am_TB := am_tb1 955 (by decide +kernel) (by decide +kernel)
theorem wd_956 : (Jvm.Cond.selects "AisleScheduler" ({ cls := "AisleScheduler", name := "robotAt", desc := "(II)I" } : Jvm.MethodName) ({ cls := "AisleScheduler", name := "robotAt", desc := "(II)I" } : Jvm.MethodName)) ∈ am_TB := am_tb1 956 (by decide +kernel) (by decide +kernel)
theorem wd_957 : (Jvm.Cond.code ({ cls := "AisleScheduler", name := "robotAt", desc := "(II)I" } : Jvm.MethodName) prog_1_method_16_code (3 : Nat) (Option.some Jvm.ClassFile.FieldType.int)) ∈ am_TB := am_tb1 957 (by decide +kernel) (by decide +kernel)
theorem wd_965 : (Jvm.Cond.methodLink "AisleSchedulerLaw" (63 : Nat) ({ cls := "AisleScheduler", name := "cancel", desc := "(I)I" } : Jvm.MethodName)) ∈ am_TB := am_tb1 965 (by decide +kernel) (by decide +kernel)
theorem wd_966 : (Jvm.Cond.instanceMethod ({ cls := "AisleScheduler", name := "cancel", desc := "(I)I" } : Jvm.MethodName)) ∈ am_TB := am_tb1 966 (by decide +kernel) (by decide +kernel)
theorem wd_967 : (Jvm.Cond.selects "AisleScheduler" ({ cls := "AisleScheduler", name := "cancel", desc := "(I)I" } : Jvm.MethodName) ({ cls := "AisleScheduler", name := "cancel", desc := "(I)I" } : Jvm.MethodName)) ∈ am_TB := am_tb1 967 (by decide +kernel) (by decide +kernel)
theorem wd_968 : (Jvm.Cond.code ({ cls := "AisleScheduler", name := "cancel", desc := "(I)I" } : Jvm.MethodName) prog_1_method_17_code (5 : Nat) (Option.some Jvm.ClassFile.FieldType.int)) ∈ am_TB := am_tb1 968 (by decide +kernel) (by decide +kernel)
theorem wd_976 : (Jvm.Cond.methodLink "AisleSchedulerLaw" (66 : Nat) ({ cls := "AisleScheduler", name := "blockers", desc := "(II)I" } : Jvm.MethodName)) ∈ am_TB := am_tb1 976 (by decide +kernel) (by decide +kernel)
theorem wd_977 : (Jvm.Cond.instanceMethod ({ cls := "AisleScheduler", name := "blockers", desc := "(II)I" } : Jvm.MethodName)) ∈ am_TB := am_tb1 977 (by decide +kernel) (by decide +kernel)
theorem wd_978 : (Jvm.Cond.selects "AisleScheduler" ({ cls := "AisleScheduler", name := "blockers", desc := "(II)I" } : Jvm.MethodName) ({ cls := "AisleScheduler", name := "blockers", desc := "(II)I" } : Jvm.MethodName)) ∈ am_TB := am_tb1 978 (by decide +kernel) (by decide +kernel)
theorem wd_979 : (Jvm.Cond.code ({ cls := "AisleScheduler", name := "blockers", desc := "(II)I" } : Jvm.MethodName) prog_1_method_18_code (3 : Nat) (Option.some Jvm.ClassFile.FieldType.int)) ∈ am_TB := am_tb1 979 (by decide +kernel) (by decide +kernel)
theorem wd_992 : (Jvm.Cond.methodLink "AisleSchedulerLaw" (69 : Nat) ({ cls := "AisleScheduler", name := "makeWay", desc := "(II)I" } : Jvm.MethodName)) ∈ am_TB := am_tb1 992 (by decide +kernel) (by decide +kernel)
theorem wd_993 : (Jvm.Cond.instanceMethod ({ cls := "AisleScheduler", name := "makeWay", desc := "(II)I" } : Jvm.MethodName)) ∈ am_TB := am_tb1 993 (by decide +kernel) (by decide +kernel)
theorem wd_994 : (Jvm.Cond.selects "AisleScheduler" ({ cls := "AisleScheduler", name := "makeWay", desc := "(II)I" } : Jvm.MethodName) ({ cls := "AisleScheduler", name := "makeWay", desc := "(II)I" } : Jvm.MethodName)) ∈ am_TB := am_tb1 994 (by decide +kernel) (by decide +kernel)
theorem wd_995 : (Jvm.Cond.code ({ cls := "AisleScheduler", name := "makeWay", desc := "(II)I" } : Jvm.MethodName) prog_1_method_19_code (4 : Nat) (Option.some Jvm.ClassFile.FieldType.int)) ∈ am_TB := am_tb1 995 (by decide +kernel) (by decide +kernel)
theorem wd_1013 : (Jvm.Cond.methodLink "AisleSchedulerLaw" (72 : Nat) ({ cls := "AisleScheduler", name := "planToCharger", desc := "(I)I" } : Jvm.MethodName)) ∈ am_TB := am_tb1 1013 (by decide +kernel) (by decide +kernel)
theorem wd_1014 : (Jvm.Cond.instanceMethod ({ cls := "AisleScheduler", name := "planToCharger", desc := "(I)I" } : Jvm.MethodName)) ∈ am_TB := am_tb1 1014 (by decide +kernel) (by decide +kernel)
theorem wd_1015 : (Jvm.Cond.selects "AisleScheduler" ({ cls := "AisleScheduler", name := "planToCharger", desc := "(I)I" } : Jvm.MethodName) ({ cls := "AisleScheduler", name := "planToCharger", desc := "(I)I" } : Jvm.MethodName)) ∈ am_TB := am_tb1 1015 (by decide +kernel) (by decide +kernel)
theorem wd_1016 : (Jvm.Cond.code ({ cls := "AisleScheduler", name := "planToCharger", desc := "(I)I" } : Jvm.MethodName) prog_1_method_20_code (3 : Nat) (Option.some Jvm.ClassFile.FieldType.int)) ∈ am_TB := am_tb1 1016 (by decide +kernel) (by decide +kernel)
theorem wd_1026 : (Jvm.Cond.methodLink "AisleSchedulerLaw" (75 : Nat) ({ cls := "AisleScheduler", name := "addTask", desc := "(IIII)I" } : Jvm.MethodName)) ∈ am_TB := am_tb1 1026 (by decide +kernel) (by decide +kernel)
theorem wd_1027 : (Jvm.Cond.instanceMethod ({ cls := "AisleScheduler", name := "addTask", desc := "(IIII)I" } : Jvm.MethodName)) ∈ am_TB := am_tb1 1027 (by decide +kernel) (by decide +kernel)
theorem wd_1028 : (Jvm.Cond.selects "AisleScheduler" ({ cls := "AisleScheduler", name := "addTask", desc := "(IIII)I" } : Jvm.MethodName) ({ cls := "AisleScheduler", name := "addTask", desc := "(IIII)I" } : Jvm.MethodName)) ∈ am_TB := am_tb1 1028 (by decide +kernel) (by decide +kernel)
theorem wd_1029 : (Jvm.Cond.code ({ cls := "AisleScheduler", name := "addTask", desc := "(IIII)I" } : Jvm.MethodName) prog_1_method_21_code (5 : Nat) (Option.some Jvm.ClassFile.FieldType.int)) ∈ am_TB := am_tb1 1029 (by decide +kernel) (by decide +kernel)
theorem wd_1040 : (Jvm.Cond.methodLink "AisleSchedulerLaw" (79 : Nat) ({ cls := "AisleScheduler", name := "serve", desc := "(II)I" } : Jvm.MethodName)) ∈ am_TB := am_tb1 1040 (by decide +kernel) (by decide +kernel)
theorem wd_1041 : (Jvm.Cond.instanceMethod ({ cls := "AisleScheduler", name := "serve", desc := "(II)I" } : Jvm.MethodName)) ∈ am_TB := am_tb1 1041 (by decide +kernel) (by decide +kernel)
theorem wd_1042 : (Jvm.Cond.selects "AisleScheduler" ({ cls := "AisleScheduler", name := "serve", desc := "(II)I" } : Jvm.MethodName) ({ cls := "AisleScheduler", name := "serve", desc := "(II)I" } : Jvm.MethodName)) ∈ am_TB := am_tb1 1042 (by decide +kernel) (by decide +kernel)
theorem wd_1043 : (Jvm.Cond.code ({ cls := "AisleScheduler", name := "serve", desc := "(II)I" } : Jvm.MethodName) prog_1_method_22_code (3 : Nat) (Option.some Jvm.ClassFile.FieldType.int)) ∈ am_TB := am_tb1 1043 (by decide +kernel) (by decide +kernel)
theorem wd_1058 : (Jvm.Cond.methodLink "AisleSchedulerLaw" (82 : Nat) ({ cls := "AisleScheduler", name := "bestRobot", desc := "(I)I" } : Jvm.MethodName)) ∈ am_TB := am_tb1 1058 (by decide +kernel) (by decide +kernel)
theorem wd_1059 : (Jvm.Cond.instanceMethod ({ cls := "AisleScheduler", name := "bestRobot", desc := "(I)I" } : Jvm.MethodName)) ∈ am_TB := am_tb1 1059 (by decide +kernel) (by decide +kernel)
theorem wd_1060 : (Jvm.Cond.selects "AisleScheduler" ({ cls := "AisleScheduler", name := "bestRobot", desc := "(I)I" } : Jvm.MethodName) ({ cls := "AisleScheduler", name := "bestRobot", desc := "(I)I" } : Jvm.MethodName)) ∈ am_TB := am_tb1 1060 (by decide +kernel) (by decide +kernel)
theorem wd_1061 : (Jvm.Cond.code ({ cls := "AisleScheduler", name := "bestRobot", desc := "(I)I" } : Jvm.MethodName) prog_1_method_23_code (3 : Nat) (Option.some Jvm.ClassFile.FieldType.int)) ∈ am_TB := am_tb1 1061 (by decide +kernel) (by decide +kernel)
theorem wd_1067 : (Jvm.Cond.methodLink "AisleSchedulerLaw" (85 : Nat) ({ cls := "AisleScheduler", name := "task", desc := "(II)I" } : Jvm.MethodName)) ∈ am_TB := am_tb1 1067 (by decide +kernel) (by decide +kernel)
theorem wd_1068 : (Jvm.Cond.instanceMethod ({ cls := "AisleScheduler", name := "task", desc := "(II)I" } : Jvm.MethodName)) ∈ am_TB := am_tb1 1068 (by decide +kernel) (by decide +kernel)
theorem wd_1069 : (Jvm.Cond.selects "AisleScheduler" ({ cls := "AisleScheduler", name := "task", desc := "(II)I" } : Jvm.MethodName) ({ cls := "AisleScheduler", name := "task", desc := "(II)I" } : Jvm.MethodName)) ∈ am_TB := am_tb1 1069 (by decide +kernel) (by decide +kernel)
theorem wd_1070 : (Jvm.Cond.code ({ cls := "AisleScheduler", name := "task", desc := "(II)I" } : Jvm.MethodName) prog_1_method_24_code (4 : Nat) (Option.some Jvm.ClassFile.FieldType.int)) ∈ am_TB := am_tb1 1070 (by decide +kernel) (by decide +kernel)
theorem wd_1075 : (Jvm.Cond.methodLink "AisleSchedulerLaw" (88 : Nat) ({ cls := "AisleScheduler", name := "tasksIn", desc := "(I)I" } : Jvm.MethodName)) ∈ am_TB := am_tb1 1075 (by decide +kernel) (by decide +kernel)
theorem wd_1076 : (Jvm.Cond.instanceMethod ({ cls := "AisleScheduler", name := "tasksIn", desc := "(I)I" } : Jvm.MethodName)) ∈ am_TB := am_tb1 1076 (by decide +kernel) (by decide +kernel)
theorem wd_1077 : (Jvm.Cond.selects "AisleScheduler" ({ cls := "AisleScheduler", name := "tasksIn", desc := "(I)I" } : Jvm.MethodName) ({ cls := "AisleScheduler", name := "tasksIn", desc := "(I)I" } : Jvm.MethodName)) ∈ am_TB := am_tb1 1077 (by decide +kernel) (by decide +kernel)
theorem wd_1078 : (Jvm.Cond.code ({ cls := "AisleScheduler", name := "tasksIn", desc := "(I)I" } : Jvm.MethodName) prog_1_method_26_code (4 : Nat) (Option.some Jvm.ClassFile.FieldType.int)) ∈ am_TB := am_tb1 1078 (by decide +kernel) (by decide +kernel)
theorem wd_1083 : (Jvm.Cond.methodLink "AisleSchedulerLaw" (91 : Nat) ({ cls := "AisleScheduler", name := "advance", desc := "(I)I" } : Jvm.MethodName)) ∈ am_TB := am_tb1 1083 (by decide +kernel) (by decide +kernel)
theorem wd_1084 : (Jvm.Cond.instanceMethod ({ cls := "AisleScheduler", name := "advance", desc := "(I)I" } : Jvm.MethodName)) ∈ am_TB := am_tb1 1084 (by decide +kernel) (by decide +kernel)
theorem wd_1085 : (Jvm.Cond.selects "AisleScheduler" ({ cls := "AisleScheduler", name := "advance", desc := "(I)I" } : Jvm.MethodName) ({ cls := "AisleScheduler", name := "advance", desc := "(I)I" } : Jvm.MethodName)) ∈ am_TB := am_tb1 1085 (by decide +kernel) (by decide +kernel)
theorem wd_1086 : (Jvm.Cond.code ({ cls := "AisleScheduler", name := "advance", desc := "(I)I" } : Jvm.MethodName) prog_1_method_27_code (4 : Nat) (Option.some Jvm.ClassFile.FieldType.int)) ∈ am_TB := am_tb1 1086 (by decide +kernel) (by decide +kernel)
theorem wd_1122 : (Jvm.Cond.methodLink "AisleSchedulerLaw" (94 : Nat) ({ cls := "AisleScheduler", name := "statistic", desc := "(II)I" } : Jvm.MethodName)) ∈ am_TB := am_tb1 1122 (by decide +kernel) (by decide +kernel)
theorem wd_1123 : (Jvm.Cond.instanceMethod ({ cls := "AisleScheduler", name := "statistic", desc := "(II)I" } : Jvm.MethodName)) ∈ am_TB := am_tb1 1123 (by decide +kernel) (by decide +kernel)
theorem wd_1124 : (Jvm.Cond.selects "AisleScheduler" ({ cls := "AisleScheduler", name := "statistic", desc := "(II)I" } : Jvm.MethodName) ({ cls := "AisleScheduler", name := "statistic", desc := "(II)I" } : Jvm.MethodName)) ∈ am_TB := am_tb1 1124 (by decide +kernel) (by decide +kernel)
theorem wd_1125 : (Jvm.Cond.code ({ cls := "AisleScheduler", name := "statistic", desc := "(II)I" } : Jvm.MethodName) prog_1_method_28_code (3 : Nat) (Option.some Jvm.ClassFile.FieldType.int)) ∈ am_TB := am_tb1 1125 (by decide +kernel) (by decide +kernel)
theorem wd_1130 : (Jvm.Cond.classLink "AisleSchedulerLaw" (101 : Nat) "java/lang/ArithmeticException") ∈ am_TB := am_tb1 1130 (by decide +kernel) (by decide +kernel)
theorem wd_1144 : (Jvm.Cond.methodLink "AisleSchedulerLaw" (97 : Nat) ({ cls := "AisleScheduler", name := "activity", desc := "(I)F" } : Jvm.MethodName)) ∈ am_TB := am_tb1 1144 (by decide +kernel) (by decide +kernel)
theorem wd_1145 : (Jvm.Cond.instanceMethod ({ cls := "AisleScheduler", name := "activity", desc := "(I)F" } : Jvm.MethodName)) ∈ am_TB := am_tb1 1145 (by decide +kernel) (by decide +kernel)
theorem wd_1146 : (Jvm.Cond.selects "AisleScheduler" ({ cls := "AisleScheduler", name := "activity", desc := "(I)F" } : Jvm.MethodName) ({ cls := "AisleScheduler", name := "activity", desc := "(I)F" } : Jvm.MethodName)) ∈ am_TB := am_tb1 1146 (by decide +kernel) (by decide +kernel)
theorem wd_1147 : (Jvm.Cond.code ({ cls := "AisleScheduler", name := "activity", desc := "(I)F" } : Jvm.MethodName) prog_1_method_29_code (2 : Nat) (Option.some Jvm.ClassFile.FieldType.float)) ∈ am_TB := am_tb1 1147 (by decide +kernel) (by decide +kernel)
theorem wd_1158 : (Jvm.Cond.methodLink "AisleSchedulerLaw" (103 : Nat) ({ cls := "AisleScheduler", name := "activityBits", desc := "(I)I" } : Jvm.MethodName)) ∈ am_TB := am_tb1 1158 (by decide +kernel) (by decide +kernel)
theorem wd_1159 : (Jvm.Cond.instanceMethod ({ cls := "AisleScheduler", name := "activityBits", desc := "(I)I" } : Jvm.MethodName)) ∈ am_TB := am_tb1 1159 (by decide +kernel) (by decide +kernel)
theorem wd_1160 : (Jvm.Cond.selects "AisleScheduler" ({ cls := "AisleScheduler", name := "activityBits", desc := "(I)I" } : Jvm.MethodName) ({ cls := "AisleScheduler", name := "activityBits", desc := "(I)I" } : Jvm.MethodName)) ∈ am_TB := am_tb1 1160 (by decide +kernel) (by decide +kernel)
theorem wd_1161 : (Jvm.Cond.code ({ cls := "AisleScheduler", name := "activityBits", desc := "(I)I" } : Jvm.MethodName) prog_1_method_30_code (2 : Nat) (Option.some Jvm.ClassFile.FieldType.int)) ∈ am_TB := am_tb1 1161 (by decide +kernel) (by decide +kernel)
theorem wd_1170 : (Jvm.Cond.methodLink "AisleSchedulerLaw" (106 : Nat) ({ cls := "AisleScheduler", name := "averageDelay", desc := "()D" } : Jvm.MethodName)) ∈ am_TB := am_tb1 1170 (by decide +kernel) (by decide +kernel)
theorem wd_1171 : (Jvm.Cond.instanceMethod ({ cls := "AisleScheduler", name := "averageDelay", desc := "()D" } : Jvm.MethodName)) ∈ am_TB := am_tb1 1171 (by decide +kernel) (by decide +kernel)
theorem wd_1172 : (Jvm.Cond.selects "AisleScheduler" ({ cls := "AisleScheduler", name := "averageDelay", desc := "()D" } : Jvm.MethodName) ({ cls := "AisleScheduler", name := "averageDelay", desc := "()D" } : Jvm.MethodName)) ∈ am_TB := am_tb1 1172 (by decide +kernel) (by decide +kernel)
theorem wd_1173 : (Jvm.Cond.code ({ cls := "AisleScheduler", name := "averageDelay", desc := "()D" } : Jvm.MethodName) prog_1_method_31_code (5 : Nat) (Option.some Jvm.ClassFile.FieldType.double)) ∈ am_TB := am_tb1 1173 (by decide +kernel) (by decide +kernel)
theorem wd_1178 : (Jvm.Cond.methodLink "AisleSchedulerLaw" (110 : Nat) ({ cls := "AisleScheduler", name := "visits", desc := "(I)I" } : Jvm.MethodName)) ∈ am_TB := am_tb1 1178 (by decide +kernel) (by decide +kernel)
theorem wd_1179 : (Jvm.Cond.instanceMethod ({ cls := "AisleScheduler", name := "visits", desc := "(I)I" } : Jvm.MethodName)) ∈ am_TB := am_tb1 1179 (by decide +kernel) (by decide +kernel)
theorem wd_1180 : (Jvm.Cond.selects "AisleScheduler" ({ cls := "AisleScheduler", name := "visits", desc := "(I)I" } : Jvm.MethodName) ({ cls := "AisleScheduler", name := "visits", desc := "(I)I" } : Jvm.MethodName)) ∈ am_TB := am_tb1 1180 (by decide +kernel) (by decide +kernel)
theorem wd_1181 : (Jvm.Cond.code ({ cls := "AisleScheduler", name := "visits", desc := "(I)I" } : Jvm.MethodName) prog_1_method_32_code (2 : Nat) (Option.some Jvm.ClassFile.FieldType.int)) ∈ am_TB := am_tb1 1181 (by decide +kernel) (by decide +kernel)
theorem wd_1185 : (Jvm.Cond.methodLink "AisleSchedulerLaw" (113 : Nat) ({ cls := "AisleScheduler", name := "sample", desc := "(III)I" } : Jvm.MethodName)) ∈ am_TB := am_tb1 1185 (by decide +kernel) (by decide +kernel)
theorem wd_1186 : (Jvm.Cond.instanceMethod ({ cls := "AisleScheduler", name := "sample", desc := "(III)I" } : Jvm.MethodName)) ∈ am_TB := am_tb1 1186 (by decide +kernel) (by decide +kernel)
theorem wd_1187 : (Jvm.Cond.selects "AisleScheduler" ({ cls := "AisleScheduler", name := "sample", desc := "(III)I" } : Jvm.MethodName) ({ cls := "AisleScheduler", name := "sample", desc := "(III)I" } : Jvm.MethodName)) ∈ am_TB := am_tb1 1187 (by decide +kernel) (by decide +kernel)
theorem wd_1188 : (Jvm.Cond.code ({ cls := "AisleScheduler", name := "sample", desc := "(III)I" } : Jvm.MethodName) prog_1_method_34_code (6 : Nat) (Option.some Jvm.ClassFile.FieldType.int)) ∈ am_TB := am_tb1 1188 (by decide +kernel) (by decide +kernel)
theorem wd_1208 : (Jvm.Cond.methodLink "AisleSchedulerLaw" (117 : Nat) ({ cls := "AisleScheduler", name := "sampled", desc := "(III)I" } : Jvm.MethodName)) ∈ am_TB := am_tb1 1208 (by decide +kernel) (by decide +kernel)
theorem wd_1209 : (Jvm.Cond.instanceMethod ({ cls := "AisleScheduler", name := "sampled", desc := "(III)I" } : Jvm.MethodName)) ∈ am_TB := am_tb1 1209 (by decide +kernel) (by decide +kernel)
theorem wd_1210 : (Jvm.Cond.selects "AisleScheduler" ({ cls := "AisleScheduler", name := "sampled", desc := "(III)I" } : Jvm.MethodName) ({ cls := "AisleScheduler", name := "sampled", desc := "(III)I" } : Jvm.MethodName)) ∈ am_TB := am_tb1 1210 (by decide +kernel) (by decide +kernel)
theorem wd_1211 : (Jvm.Cond.code ({ cls := "AisleScheduler", name := "sampled", desc := "(III)I" } : Jvm.MethodName) prog_1_method_35_code (5 : Nat) (Option.some Jvm.ClassFile.FieldType.int)) ∈ am_TB := am_tb1 1211 (by decide +kernel) (by decide +kernel)
theorem wd_1217 : (Jvm.Cond.methodLink "AisleSchedulerLaw" (120 : Nat) ({ cls := "AisleScheduler", name := "append", desc := "(C)I" } : Jvm.MethodName)) ∈ am_TB := am_tb1 1217 (by decide +kernel) (by decide +kernel)
theorem wd_1218 : (Jvm.Cond.instanceMethod ({ cls := "AisleScheduler", name := "append", desc := "(C)I" } : Jvm.MethodName)) ∈ am_TB := am_tb1 1218 (by decide +kernel) (by decide +kernel)
theorem wd_1219 : (Jvm.Cond.selects "AisleScheduler" ({ cls := "AisleScheduler", name := "append", desc := "(C)I" } : Jvm.MethodName) ({ cls := "AisleScheduler", name := "append", desc := "(C)I" } : Jvm.MethodName)) ∈ am_TB := am_tb1 1219 (by decide +kernel) (by decide +kernel)
theorem wd_1220 : (Jvm.Cond.code ({ cls := "AisleScheduler", name := "append", desc := "(C)I" } : Jvm.MethodName) prog_1_method_36_code (2 : Nat) (Option.some Jvm.ClassFile.FieldType.int)) ∈ am_TB := am_tb1 1220 (by decide +kernel) (by decide +kernel)
theorem wd_1231 : (Jvm.Cond.methodLink "AisleSchedulerLaw" (124 : Nat) ({ cls := "AisleScheduler", name := "read", desc := "()I" } : Jvm.MethodName)) ∈ am_TB := am_tb1 1231 (by decide +kernel) (by decide +kernel)
theorem wd_1232 : (Jvm.Cond.instanceMethod ({ cls := "AisleScheduler", name := "read", desc := "()I" } : Jvm.MethodName)) ∈ am_TB := am_tb1 1232 (by decide +kernel) (by decide +kernel)
theorem wd_1233 : (Jvm.Cond.selects "AisleScheduler" ({ cls := "AisleScheduler", name := "read", desc := "()I" } : Jvm.MethodName) ({ cls := "AisleScheduler", name := "read", desc := "()I" } : Jvm.MethodName)) ∈ am_TB := am_tb1 1233 (by decide +kernel) (by decide +kernel)
theorem wd_1234 : (Jvm.Cond.code ({ cls := "AisleScheduler", name := "read", desc := "()I" } : Jvm.MethodName) prog_1_method_37_code (2 : Nat) (Option.some Jvm.ClassFile.FieldType.int)) ∈ am_TB := am_tb1 1234 (by decide +kernel) (by decide +kernel)
theorem wd_1276 : (Jvm.Cond.methodLink "AisleSchedulerLaw" (128 : Nat) ({ cls := "AisleScheduler", name := "errorPosition", desc := "()I" } : Jvm.MethodName)) ∈ am_TB := am_tb1 1276 (by decide +kernel) (by decide +kernel)
theorem wd_1277 : (Jvm.Cond.instanceMethod ({ cls := "AisleScheduler", name := "errorPosition", desc := "()I" } : Jvm.MethodName)) ∈ am_TB := am_tb1 1277 (by decide +kernel) (by decide +kernel)
theorem wd_1278 : (Jvm.Cond.selects "AisleScheduler" ({ cls := "AisleScheduler", name := "errorPosition", desc := "()I" } : Jvm.MethodName) ({ cls := "AisleScheduler", name := "errorPosition", desc := "()I" } : Jvm.MethodName)) ∈ am_TB := am_tb1 1278 (by decide +kernel) (by decide +kernel)
theorem wd_1279 : (Jvm.Cond.code ({ cls := "AisleScheduler", name := "errorPosition", desc := "()I" } : Jvm.MethodName) prog_1_method_38_code (1 : Nat) (Option.some Jvm.ClassFile.FieldType.int)) ∈ am_TB := am_tb1 1279 (by decide +kernel) (by decide +kernel)
theorem wd_1284 : (Jvm.Cond.methodLink "AisleSchedulerLaw" (131 : Nat) ({ cls := "AisleScheduler", name := "restore", desc := "()I" } : Jvm.MethodName)) ∈ am_TB := am_tb1 1284 (by decide +kernel) (by decide +kernel)
theorem wd_1285 : (Jvm.Cond.instanceMethod ({ cls := "AisleScheduler", name := "restore", desc := "()I" } : Jvm.MethodName)) ∈ am_TB := am_tb1 1285 (by decide +kernel) (by decide +kernel)
theorem wd_1286 : (Jvm.Cond.selects "AisleScheduler" ({ cls := "AisleScheduler", name := "restore", desc := "()I" } : Jvm.MethodName) ({ cls := "AisleScheduler", name := "restore", desc := "()I" } : Jvm.MethodName)) ∈ am_TB := am_tb1 1286 (by decide +kernel) (by decide +kernel)
theorem wd_1287 : (Jvm.Cond.code ({ cls := "AisleScheduler", name := "restore", desc := "()I" } : Jvm.MethodName) prog_1_method_40_code (1 : Nat) (Option.some Jvm.ClassFile.FieldType.int)) ∈ am_TB := am_tb1 1287 (by decide +kernel) (by decide +kernel)
theorem nd_700 : (Jvm.Cond.castable "java/lang/IndexOutOfBoundsException" "java/lang/IndexOutOfBoundsException") ∈ am_NB := am_nb1 700 (by decide +kernel) (by decide +kernel)
theorem nd_713 : (Jvm.Cond.castable "java/lang/IllegalArgumentException" "java/lang/IllegalArgumentException") ∈ am_NB := am_nb1 713 (by decide +kernel) (by decide +kernel)
theorem nd_729 : (Jvm.Cond.castable "java/lang/IllegalStateException" "java/lang/IllegalStateException") ∈ am_NB := am_nb1 729 (by decide +kernel) (by decide +kernel)
theorem nd_859 : (Jvm.Cond.castable "java/util/NoSuchElementException" "java/util/NoSuchElementException") ∈ am_NB := am_nb1 859 (by decide +kernel) (by decide +kernel)
theorem nd_899 : (Jvm.Cond.castable "java/lang/UnsupportedOperationException" "java/lang/UnsupportedOperationException") ∈ am_NB := am_nb1 899 (by decide +kernel) (by decide +kernel)
theorem nd_1142 : (Jvm.Cond.castable "java/lang/ArithmeticException" "java/lang/ArithmeticException") ∈ am_NB := am_nb1 1142 (by decide +kernel) (by decide +kernel)
theorem cw_L_103 : am_CV RL 103 RX9 yX9_activityBits cX9_activityBits 2 (some .int) := ⟨wd_1158, wd_1159, wd_1160, wd_1, wd_1161, rfl⟩
theorem cw_L_106 : am_CV RL 106 RX9 yX9_averageDelay cX9_averageDelay 5 (some .double) := ⟨wd_1170, wd_1171, wd_1172, wd_1, wd_1173, rfl⟩
theorem cw_L_110 : am_CV RL 110 RX9 yX9_visits cX9_visits 2 (some .int) := ⟨wd_1178, wd_1179, wd_1180, wd_1, wd_1181, rfl⟩
theorem cw_L_113 : am_CV RL 113 RX9 yX9_sample cX9_sample 6 (some .int) := ⟨wd_1185, wd_1186, wd_1187, wd_1, wd_1188, rfl⟩
theorem cw_L_117 : am_CV RL 117 RX9 yX9_sampled cX9_sampled 5 (some .int) := ⟨wd_1208, wd_1209, wd_1210, wd_1, wd_1211, rfl⟩
theorem cw_L_120 : am_CV RL 120 RX9 yX9_append cX9_append 2 (some .int) := ⟨wd_1217, wd_1218, wd_1219, wd_1, wd_1220, rfl⟩
theorem cw_L_124 : am_CV RL 124 RX9 yX9_read cX9_read 2 (some .int) := ⟨wd_1231, wd_1232, wd_1233, wd_1, wd_1234, rfl⟩
theorem cw_L_128 : am_CV RL 128 RX9 yX9_errorPosition cX9_errorPosition 1 (some .int) := ⟨wd_1276, wd_1277, wd_1278, wd_1, wd_1279, rfl⟩
theorem cw_L_131 : am_CV RL 131 RX9 yX9_restore cX9_restore 1 (some .int) := ⟨wd_1284, wd_1285, wd_1286, wd_1, wd_1287, rfl⟩
theorem cw_L_19 : am_CV RL 19 RX9 yX9_cell cX9_cell 2 (some .int) := ⟨wd_746, wd_747, wd_748, wd_1, wd_749, rfl⟩
theorem cw_L_23 : am_CV RL 23 RX9 yX9_addLift cX9_addLift 3 (some .int) := ⟨wd_757, wd_758, wd_759, wd_1, wd_760, rfl⟩
theorem cw_L_26 : am_CV RL 26 RX9 yX9_addRobot cX9_addRobot 3 (some .int) := ⟨wd_773, wd_774, wd_775, wd_1, wd_776, rfl⟩
theorem cw_L_29 : am_CV RL 29 RX9 yX9_robot cX9_robot 5 (some .int) := ⟨wd_790, wd_791, wd_792, wd_1, wd_793, rfl⟩
theorem cw_L_32 : am_CV RL 32 RX9 yX9_count cX9_count 2 (some .int) := ⟨wd_815, wd_816, wd_817, wd_1, wd_818, rfl⟩
theorem cw_L_35 : am_CV RL 35 RX9 yX9_region cX9_region 2 (some .int) := ⟨wd_826, wd_827, wd_828, wd_1, wd_829, rfl⟩
theorem cw_L_38 : am_CV RL 38 RX9 yX9_ticksBetween cX9_ticksBetween 4 (some .int) := ⟨wd_848, wd_849, wd_850, wd_1, wd_851, rfl⟩
theorem cw_L_43 : am_CV RL 43 RX9 yX9_plan cX9_plan 3 (some .int) := ⟨wd_877, wd_878, wd_879, wd_1, wd_880, rfl⟩
theorem cw_L_48 : am_CV RL 48 RX9 yX9_arrival cX9_arrival 3 (some .int) := ⟨wd_917, wd_918, wd_919, wd_1, wd_920, rfl⟩
theorem cw_L_51 : am_CV RL 51 RX9 yX9_routeCost cX9_routeCost 3 (some .int) := ⟨wd_924, wd_925, wd_926, wd_1, wd_927, rfl⟩
theorem cw_L_54 : am_CV RL 54 RX9 yX9_action cX9_action 4 (some .int) := ⟨wd_931, wd_932, wd_933, wd_1, wd_934, rfl⟩
theorem cw_L_57 : am_CV RL 57 RX9 yX9_cellAfter cX9_cellAfter 3 (some .int) := ⟨wd_943, wd_944, wd_945, wd_1, wd_946, rfl⟩
theorem cw_L_60 : am_CV RL 60 RX9 yX9_robotAt cX9_robotAt 3 (some .int) := ⟨wd_954, wd_955, wd_956, wd_1, wd_957, rfl⟩
theorem cw_L_63 : am_CV RL 63 RX9 yX9_cancel cX9_cancel 5 (some .int) := ⟨wd_965, wd_966, wd_967, wd_1, wd_968, rfl⟩
theorem cw_L_66 : am_CV RL 66 RX9 yX9_blockers cX9_blockers 3 (some .int) := ⟨wd_976, wd_977, wd_978, wd_1, wd_979, rfl⟩
theorem cw_L_69 : am_CV RL 69 RX9 yX9_makeWay cX9_makeWay 4 (some .int) := ⟨wd_992, wd_993, wd_994, wd_1, wd_995, rfl⟩
theorem cw_L_7 : am_CV RL 7 RX9 yX9_setCell cX9_setCell 4 (some .int) := ⟨wd_675, wd_676, wd_677, wd_1, wd_678, rfl⟩
theorem cw_L_72 : am_CV RL 72 RX9 yX9_planToCharger cX9_planToCharger 3 (some .int) := ⟨wd_1013, wd_1014, wd_1015, wd_1, wd_1016, rfl⟩
theorem cw_L_75 : am_CV RL 75 RX9 yX9_addTask cX9_addTask 5 (some .int) := ⟨wd_1026, wd_1027, wd_1028, wd_1, wd_1029, rfl⟩
theorem cw_L_79 : am_CV RL 79 RX9 yX9_serve cX9_serve 3 (some .int) := ⟨wd_1040, wd_1041, wd_1042, wd_1, wd_1043, rfl⟩
theorem cw_L_82 : am_CV RL 82 RX9 yX9_bestRobot cX9_bestRobot 3 (some .int) := ⟨wd_1058, wd_1059, wd_1060, wd_1, wd_1061, rfl⟩
theorem cw_L_85 : am_CV RL 85 RX9 yX9_task cX9_task 4 (some .int) := ⟨wd_1067, wd_1068, wd_1069, wd_1, wd_1070, rfl⟩
theorem cw_L_88 : am_CV RL 88 RX9 yX9_tasksIn cX9_tasksIn 4 (some .int) := ⟨wd_1075, wd_1076, wd_1077, wd_1, wd_1078, rfl⟩
theorem cw_L_91 : am_CV RL 91 RX9 yX9_advance cX9_advance 4 (some .int) := ⟨wd_1083, wd_1084, wd_1085, wd_1, wd_1086, rfl⟩
theorem cw_L_94 : am_CV RL 94 RX9 yX9_statistic cX9_statistic 3 (some .int) := ⟨wd_1122, wd_1123, wd_1124, wd_1, wd_1125, rfl⟩
theorem cw_L_97 : am_CV RL 97 RX9 yX9_activity cX9_activity 2 (some .float) := ⟨wd_1144, wd_1145, wd_1146, wd_1, wd_1147, rfl⟩
/-! the law's setCell(LAisleScheduler;II[J)I -/
abbrev rm_L_setCell : Room := { frames := 8, cells := 1, slots := 6, locals := 143 }
theorem yn_L_setCell : am_yn yL_setCell 4 := ⟨⟨by decide +kernel, by decide +kernel⟩, by decide +kernel⟩
def g_L_setCell (a1 : Int32) (a2 : Int32) (M : am_M) : Option (Int32 × am_M) := (am_bt (g_X9_setCell a1 a2 M) (fun v4 M2 => (am_ci (0 : Int32) 1 (some ((0 : Int32), (am_ls M2 186 (0 : Int32).toNatClampNeg (v4.toInt64)))))) (fun k6 M2 => (if k6 = 1 then (some ((1 : Int32), M2)) else (if k6 = 2 then (some ((2 : Int32), M2)) else (if k6 = 3 then (some ((3 : Int32), M2)) else none)))))
set_option maxHeartbeats 4000000 in
set_option maxRecDepth 100000 in
theorem c_L_setCell (l : Launch) (hls : l.stackTraces = false) (D : va_G) (E : Nat → ClassId) (z : Nat) (a1 : Int32) (a2 : Int32) (M : am_M) (r0 : Int32) (M1 : am_M) (h : g_L_setCell a1 a2 M = some (r0, M1)) : am_Li l yL_setCell cL_setCell 5 (some .int) [(0, 10, 13, 13), (0, 10, 17, 15), (0, 10, 21, 17)] rm_L_setCell D E z [.ref (z + 0), .int a1, .int a2, .ref (z + 186)] M 1 6 r0 M1 := by
  unfold g_L_setCell at h
  refine am_lof (own := RL) (by decide +kernel) rfl (by exact Nat.le_of_ble_eq_true rfl) ?_
  intro p e s m args below meth c F hr hNC hT
  show am_W p l e rm_L_setCell s m args below meth c _ 5 D E z 0 0 M 0 [(0, .ref (z + 0)), (1, .int a1), (2, .int a2), (3, .ref (z + 186))] []
  refine am_aload_n F 3 dL_setCell_0 rfl rfl ?_
  refine am_iconst F (v := (0 : Int32)) dL_setCell_1 (by decide) ?_
  refine am_aload_n F 0 dL_setCell_2 rfl rfl ?_
  refine am_iload_n F 1 dL_setCell_3 rfl rfl ?_
  refine am_iload_n F 2 dL_setCell_4 rfl rfl ?_
  obtain ⟨o3, M2, h1, h⟩ := am_btE h
  refine am_tcallVi F [.int a1, .int a2] lyk_0 (by decide) rfl cw_L_7 (c_X9_setCell l hls D E z a1 a2 M o3 M2 h1) yn_X9_setCell rfl ⟨Nat.le_of_ble_eq_true rfl, Nat.le_of_ble_eq_true rfl⟩ rfl rfl (Nat.le_of_ble_eq_true rfl) ⟨Nat.le_of_ble_eq_true rfl, Nat.le_of_ble_eq_true rfl⟩ dL_setCell_5 rfl h (fun v4 h => ?_) (fun k6 h => ?_)
  · refine am_i2l F dL_setCell_8 ?_
    obtain ⟨q5, h⟩ := am_ciE h
    refine am_last F lyk_186 q5 dL_setCell_9 ?_
    refine am_goto F (tgt := 25) dL_setCell_10 (by decide) ?_
    refine am_iconst F (v := (0 : Int32)) dL_setCell_25 (by decide) ?_
    exact am_liret F hr ⟨Nat.le_of_ble_eq_true rfl, Nat.le_of_ble_eq_true rfl⟩ h dL_setCell_26
  · skip
    by_cases c7 : k6 = 1
    · have h := (if_pos c7).symm.trans h
      subst c7
      refine am_catch F hNC hT ⟨by decide, by decide⟩ [] ⟨0, 10, 13, 13⟩ [⟨0, 10, 17, 15⟩, ⟨0, 10, 21, 17⟩] rfl (fun z hz => nomatch hz) (by decide) (by decide) wd_593 nd_700 (fun q8 => ?_)
      refine am_astore F [(4, .ref q8), (0, .ref (z + 0)), (1, .int a1), (2, .int a2), (3, .ref (z + 186))] dL_setCell_13 (by decide) rfl ?_
      refine am_iconst F (v := (1 : Int32)) dL_setCell_15 (by decide) ?_
      exact am_liret F hr ⟨Nat.le_of_ble_eq_true rfl, Nat.le_of_ble_eq_true rfl⟩ h dL_setCell_16
    · have h := (if_neg c7).symm.trans h
      by_cases c9 : k6 = 2
      · have h := (if_pos c9).symm.trans h
        subst c9
        refine am_catch F hNC hT ⟨by decide, by decide⟩ [⟨0, 10, 13, 13⟩] ⟨0, 10, 17, 15⟩ [⟨0, 10, 21, 17⟩] rfl (by
            intro z hz
            simp only [List.mem_cons, List.not_mem_nil, or_false] at hz
            rcases hz with rfl
            · exact ⟨by decide, 1, by decide, by decide, by decide, wd_593⟩) (by decide) (by decide) wd_673 nd_713 (fun q10 => ?_)
        refine am_astore F [(4, .ref q10), (0, .ref (z + 0)), (1, .int a1), (2, .int a2), (3, .ref (z + 186))] dL_setCell_17 (by decide) rfl ?_
        refine am_iconst F (v := (2 : Int32)) dL_setCell_19 (by decide) ?_
        exact am_liret F hr ⟨Nat.le_of_ble_eq_true rfl, Nat.le_of_ble_eq_true rfl⟩ h dL_setCell_20
      · have h := (if_neg c9).symm.trans h
        by_cases c11 : k6 = 3
        · have h := (if_pos c11).symm.trans h
          subst c11
          refine am_catch F hNC hT ⟨by decide, by decide⟩ [⟨0, 10, 13, 13⟩, ⟨0, 10, 17, 15⟩] ⟨0, 10, 21, 17⟩ [] rfl (by
              intro z hz
              simp only [List.mem_cons, List.not_mem_nil, or_false] at hz
              rcases hz with rfl | rfl
              · exact ⟨by decide, 1, by decide, by decide, by decide, wd_593⟩
              · exact ⟨by decide, 2, by decide, by decide, by decide, wd_673⟩) (by decide) (by decide) wd_674 nd_729 (fun q12 => ?_)
          refine am_astore F [(4, .ref q12), (0, .ref (z + 0)), (1, .int a1), (2, .int a2), (3, .ref (z + 186))] dL_setCell_21 (by decide) rfl ?_
          refine am_iconst F (v := (3 : Int32)) dL_setCell_23 (by decide) ?_
          exact am_liret F hr ⟨Nat.le_of_ble_eq_true rfl, Nat.le_of_ble_eq_true rfl⟩ h dL_setCell_24
        · have h := (if_neg c11).symm.trans h
          cases h
/-! the law's cell(LAisleScheduler;I[J)I -/
abbrev rm_L_cell : Room := { frames := 8, cells := 1, slots := 6, locals := 141 }
theorem yn_L_cell : am_yn yL_cell 3 := ⟨⟨by decide +kernel, by decide +kernel⟩, by decide +kernel⟩
def g_L_cell (a1 : Int32) (M : am_M) : Option (Int32 × am_M) := (am_bt (g_X9_cell a1 M) (fun v4 M2 => (am_ci (0 : Int32) 1 (some ((0 : Int32), (am_ls M2 186 (0 : Int32).toNatClampNeg (v4.toInt64)))))) (fun k6 M2 => (if k6 = 1 then (some ((1 : Int32), M2)) else none)))
set_option maxHeartbeats 4000000 in
set_option maxRecDepth 100000 in
theorem c_L_cell (l : Launch) (hls : l.stackTraces = false) (D : va_G) (E : Nat → ClassId) (z : Nat) (a1 : Int32) (M : am_M) (r0 : Int32) (M1 : am_M) (h : g_L_cell a1 M = some (r0, M1)) : am_Li l yL_cell cL_cell 4 (some .int) [(0, 9, 12, 13)] rm_L_cell D E z [.ref (z + 0), .int a1, .ref (z + 186)] M 1 6 r0 M1 := by
  unfold g_L_cell at h
  refine am_lof (own := RL) (by decide +kernel) rfl (by exact Nat.le_of_ble_eq_true rfl) ?_
  intro p e s m args below meth c F hr hNC hT
  show am_W p l e rm_L_cell s m args below meth c _ 4 D E z 0 0 M 0 [(0, .ref (z + 0)), (1, .int a1), (2, .ref (z + 186))] []
  refine am_aload_n F 2 dL_cell_0 rfl rfl ?_
  refine am_iconst F (v := (0 : Int32)) dL_cell_1 (by decide) ?_
  refine am_aload_n F 0 dL_cell_2 rfl rfl ?_
  refine am_iload_n F 1 dL_cell_3 rfl rfl ?_
  obtain ⟨o3, M2, h1, h⟩ := am_btE h
  refine am_tcallVi F [.int a1] lyk_0 (by decide) rfl cw_L_19 (c_X9_cell l hls D E z a1 M o3 M2 h1) yn_X9_cell rfl ⟨Nat.le_of_ble_eq_true rfl, Nat.le_of_ble_eq_true rfl⟩ rfl rfl (Nat.le_of_ble_eq_true rfl) ⟨Nat.le_of_ble_eq_true rfl, Nat.le_of_ble_eq_true rfl⟩ dL_cell_4 rfl h (fun v4 h => ?_) (fun k6 h => ?_)
  · refine am_i2l F dL_cell_7 ?_
    obtain ⟨q5, h⟩ := am_ciE h
    refine am_last F lyk_186 q5 dL_cell_8 ?_
    refine am_goto F (tgt := 15) dL_cell_9 (by decide) ?_
    refine am_iconst F (v := (0 : Int32)) dL_cell_15 (by decide) ?_
    exact am_liret F hr ⟨Nat.le_of_ble_eq_true rfl, Nat.le_of_ble_eq_true rfl⟩ h dL_cell_16
  · skip
    by_cases c7 : k6 = 1
    · have h := (if_pos c7).symm.trans h
      subst c7
      refine am_catch F hNC hT ⟨by decide, by decide⟩ [] ⟨0, 9, 12, 13⟩ [] rfl (fun z hz => nomatch hz) (by decide) (by decide) wd_593 nd_700 (fun q8 => ?_)
      refine am_astore_n F [(3, .ref q8), (0, .ref (z + 0)), (1, .int a1), (2, .ref (z + 186))] dL_cell_12 rfl (by decide) rfl ?_
      refine am_iconst F (v := (1 : Int32)) dL_cell_13 (by decide) ?_
      exact am_liret F hr ⟨Nat.le_of_ble_eq_true rfl, Nat.le_of_ble_eq_true rfl⟩ h dL_cell_14
    · have h := (if_neg c7).symm.trans h
      cases h
/-! the law's addLift(LAisleScheduler;II[J)I -/
abbrev rm_L_addLift : Room := { frames := 8, cells := 1, slots := 6, locals := 142 }
theorem yn_L_addLift : am_yn yL_addLift 4 := ⟨⟨by decide +kernel, by decide +kernel⟩, by decide +kernel⟩
def g_L_addLift (a1 : Int32) (a2 : Int32) (M : am_M) : Option (Int32 × am_M) := (am_bt (g_X9_addLift a1 a2 M) (fun v4 M2 => (am_ci (0 : Int32) 1 (some ((0 : Int32), (am_ls M2 186 (0 : Int32).toNatClampNeg (v4.toInt64)))))) (fun k6 M2 => (if k6 = 1 then (some ((1 : Int32), M2)) else (if k6 = 2 then (some ((2 : Int32), M2)) else (if k6 = 3 then (some ((3 : Int32), M2)) else none)))))
set_option maxHeartbeats 4000000 in
set_option maxRecDepth 100000 in
theorem c_L_addLift (l : Launch) (hls : l.stackTraces = false) (D : va_G) (E : Nat → ClassId) (z : Nat) (a1 : Int32) (a2 : Int32) (M : am_M) (r0 : Int32) (M1 : am_M) (h : g_L_addLift a1 a2 M = some (r0, M1)) : am_Li l yL_addLift cL_addLift 5 (some .int) [(0, 10, 13, 13), (0, 10, 17, 15), (0, 10, 21, 17)] rm_L_addLift D E z [.ref (z + 0), .int a1, .int a2, .ref (z + 186)] M 1 6 r0 M1 := by
  unfold g_L_addLift at h
  refine am_lof (own := RL) (by decide +kernel) rfl (by exact Nat.le_of_ble_eq_true rfl) ?_
  intro p e s m args below meth c F hr hNC hT
  show am_W p l e rm_L_addLift s m args below meth c _ 5 D E z 0 0 M 0 [(0, .ref (z + 0)), (1, .int a1), (2, .int a2), (3, .ref (z + 186))] []
  refine am_aload_n F 3 dL_addLift_0 rfl rfl ?_
  refine am_iconst F (v := (0 : Int32)) dL_addLift_1 (by decide) ?_
  refine am_aload_n F 0 dL_addLift_2 rfl rfl ?_
  refine am_iload_n F 1 dL_addLift_3 rfl rfl ?_
  refine am_iload_n F 2 dL_addLift_4 rfl rfl ?_
  obtain ⟨o3, M2, h1, h⟩ := am_btE h
  refine am_tcallVi F [.int a1, .int a2] lyk_0 (by decide) rfl cw_L_23 (c_X9_addLift l hls D E z a1 a2 M o3 M2 h1) yn_X9_addLift rfl ⟨Nat.le_of_ble_eq_true rfl, Nat.le_of_ble_eq_true rfl⟩ rfl rfl (Nat.le_of_ble_eq_true rfl) ⟨Nat.le_of_ble_eq_true rfl, Nat.le_of_ble_eq_true rfl⟩ dL_addLift_5 rfl h (fun v4 h => ?_) (fun k6 h => ?_)
  · refine am_i2l F dL_addLift_8 ?_
    obtain ⟨q5, h⟩ := am_ciE h
    refine am_last F lyk_186 q5 dL_addLift_9 ?_
    refine am_goto F (tgt := 25) dL_addLift_10 (by decide) ?_
    refine am_iconst F (v := (0 : Int32)) dL_addLift_25 (by decide) ?_
    exact am_liret F hr ⟨Nat.le_of_ble_eq_true rfl, Nat.le_of_ble_eq_true rfl⟩ h dL_addLift_26
  · skip
    by_cases c7 : k6 = 1
    · have h := (if_pos c7).symm.trans h
      subst c7
      refine am_catch F hNC hT ⟨by decide, by decide⟩ [] ⟨0, 10, 13, 13⟩ [⟨0, 10, 17, 15⟩, ⟨0, 10, 21, 17⟩] rfl (fun z hz => nomatch hz) (by decide) (by decide) wd_593 nd_700 (fun q8 => ?_)
      refine am_astore F [(4, .ref q8), (0, .ref (z + 0)), (1, .int a1), (2, .int a2), (3, .ref (z + 186))] dL_addLift_13 (by decide) rfl ?_
      refine am_iconst F (v := (1 : Int32)) dL_addLift_15 (by decide) ?_
      exact am_liret F hr ⟨Nat.le_of_ble_eq_true rfl, Nat.le_of_ble_eq_true rfl⟩ h dL_addLift_16
    · have h := (if_neg c7).symm.trans h
      by_cases c9 : k6 = 2
      · have h := (if_pos c9).symm.trans h
        subst c9
        refine am_catch F hNC hT ⟨by decide, by decide⟩ [⟨0, 10, 13, 13⟩] ⟨0, 10, 17, 15⟩ [⟨0, 10, 21, 17⟩] rfl (by
            intro z hz
            simp only [List.mem_cons, List.not_mem_nil, or_false] at hz
            rcases hz with rfl
            · exact ⟨by decide, 1, by decide, by decide, by decide, wd_593⟩) (by decide) (by decide) wd_673 nd_713 (fun q10 => ?_)
        refine am_astore F [(4, .ref q10), (0, .ref (z + 0)), (1, .int a1), (2, .int a2), (3, .ref (z + 186))] dL_addLift_17 (by decide) rfl ?_
        refine am_iconst F (v := (2 : Int32)) dL_addLift_19 (by decide) ?_
        exact am_liret F hr ⟨Nat.le_of_ble_eq_true rfl, Nat.le_of_ble_eq_true rfl⟩ h dL_addLift_20
      · have h := (if_neg c9).symm.trans h
        by_cases c11 : k6 = 3
        · have h := (if_pos c11).symm.trans h
          subst c11
          refine am_catch F hNC hT ⟨by decide, by decide⟩ [⟨0, 10, 13, 13⟩, ⟨0, 10, 17, 15⟩] ⟨0, 10, 21, 17⟩ [] rfl (by
              intro z hz
              simp only [List.mem_cons, List.not_mem_nil, or_false] at hz
              rcases hz with rfl | rfl
              · exact ⟨by decide, 1, by decide, by decide, by decide, wd_593⟩
              · exact ⟨by decide, 2, by decide, by decide, by decide, wd_673⟩) (by decide) (by decide) wd_674 nd_729 (fun q12 => ?_)
          refine am_astore F [(4, .ref q12), (0, .ref (z + 0)), (1, .int a1), (2, .int a2), (3, .ref (z + 186))] dL_addLift_21 (by decide) rfl ?_
          refine am_iconst F (v := (3 : Int32)) dL_addLift_23 (by decide) ?_
          exact am_liret F hr ⟨Nat.le_of_ble_eq_true rfl, Nat.le_of_ble_eq_true rfl⟩ h dL_addLift_24
        · have h := (if_neg c11).symm.trans h
          cases h
/-! the law's addRobot(LAisleScheduler;II[J)I -/
abbrev rm_L_addRobot : Room := { frames := 8, cells := 1, slots := 6, locals := 142 }
theorem yn_L_addRobot : am_yn yL_addRobot 4 := ⟨⟨by decide +kernel, by decide +kernel⟩, by decide +kernel⟩
def g_L_addRobot (a1 : Int32) (a2 : Int32) (M : am_M) : Option (Int32 × am_M) := (am_bt (g_X9_addRobot a1 a2 M) (fun v4 M2 => (am_ci (0 : Int32) 1 (some ((0 : Int32), (am_ls M2 186 (0 : Int32).toNatClampNeg (v4.toInt64)))))) (fun k6 M2 => (if k6 = 1 then (some ((1 : Int32), M2)) else (if k6 = 2 then (some ((2 : Int32), M2)) else (if k6 = 3 then (some ((3 : Int32), M2)) else none)))))
set_option maxHeartbeats 4000000 in
set_option maxRecDepth 100000 in
theorem c_L_addRobot (l : Launch) (hls : l.stackTraces = false) (D : va_G) (E : Nat → ClassId) (z : Nat) (a1 : Int32) (a2 : Int32) (M : am_M) (r0 : Int32) (M1 : am_M) (h : g_L_addRobot a1 a2 M = some (r0, M1)) : am_Li l yL_addRobot cL_addRobot 5 (some .int) [(0, 10, 13, 13), (0, 10, 17, 15), (0, 10, 21, 17)] rm_L_addRobot D E z [.ref (z + 0), .int a1, .int a2, .ref (z + 186)] M 1 6 r0 M1 := by
  unfold g_L_addRobot at h
  refine am_lof (own := RL) (by decide +kernel) rfl (by exact Nat.le_of_ble_eq_true rfl) ?_
  intro p e s m args below meth c F hr hNC hT
  show am_W p l e rm_L_addRobot s m args below meth c _ 5 D E z 0 0 M 0 [(0, .ref (z + 0)), (1, .int a1), (2, .int a2), (3, .ref (z + 186))] []
  refine am_aload_n F 3 dL_addRobot_0 rfl rfl ?_
  refine am_iconst F (v := (0 : Int32)) dL_addRobot_1 (by decide) ?_
  refine am_aload_n F 0 dL_addRobot_2 rfl rfl ?_
  refine am_iload_n F 1 dL_addRobot_3 rfl rfl ?_
  refine am_iload_n F 2 dL_addRobot_4 rfl rfl ?_
  obtain ⟨o3, M2, h1, h⟩ := am_btE h
  refine am_tcallVi F [.int a1, .int a2] lyk_0 (by decide) rfl cw_L_26 (c_X9_addRobot l hls D E z a1 a2 M o3 M2 h1) yn_X9_addRobot rfl ⟨Nat.le_of_ble_eq_true rfl, Nat.le_of_ble_eq_true rfl⟩ rfl rfl (Nat.le_of_ble_eq_true rfl) ⟨Nat.le_of_ble_eq_true rfl, Nat.le_of_ble_eq_true rfl⟩ dL_addRobot_5 rfl h (fun v4 h => ?_) (fun k6 h => ?_)
  · refine am_i2l F dL_addRobot_8 ?_
    obtain ⟨q5, h⟩ := am_ciE h
    refine am_last F lyk_186 q5 dL_addRobot_9 ?_
    refine am_goto F (tgt := 25) dL_addRobot_10 (by decide) ?_
    refine am_iconst F (v := (0 : Int32)) dL_addRobot_25 (by decide) ?_
    exact am_liret F hr ⟨Nat.le_of_ble_eq_true rfl, Nat.le_of_ble_eq_true rfl⟩ h dL_addRobot_26
  · skip
    by_cases c7 : k6 = 1
    · have h := (if_pos c7).symm.trans h
      subst c7
      refine am_catch F hNC hT ⟨by decide, by decide⟩ [] ⟨0, 10, 13, 13⟩ [⟨0, 10, 17, 15⟩, ⟨0, 10, 21, 17⟩] rfl (fun z hz => nomatch hz) (by decide) (by decide) wd_593 nd_700 (fun q8 => ?_)
      refine am_astore F [(4, .ref q8), (0, .ref (z + 0)), (1, .int a1), (2, .int a2), (3, .ref (z + 186))] dL_addRobot_13 (by decide) rfl ?_
      refine am_iconst F (v := (1 : Int32)) dL_addRobot_15 (by decide) ?_
      exact am_liret F hr ⟨Nat.le_of_ble_eq_true rfl, Nat.le_of_ble_eq_true rfl⟩ h dL_addRobot_16
    · have h := (if_neg c7).symm.trans h
      by_cases c9 : k6 = 2
      · have h := (if_pos c9).symm.trans h
        subst c9
        refine am_catch F hNC hT ⟨by decide, by decide⟩ [⟨0, 10, 13, 13⟩] ⟨0, 10, 17, 15⟩ [⟨0, 10, 21, 17⟩] rfl (by
            intro z hz
            simp only [List.mem_cons, List.not_mem_nil, or_false] at hz
            rcases hz with rfl
            · exact ⟨by decide, 1, by decide, by decide, by decide, wd_593⟩) (by decide) (by decide) wd_673 nd_713 (fun q10 => ?_)
        refine am_astore F [(4, .ref q10), (0, .ref (z + 0)), (1, .int a1), (2, .int a2), (3, .ref (z + 186))] dL_addRobot_17 (by decide) rfl ?_
        refine am_iconst F (v := (2 : Int32)) dL_addRobot_19 (by decide) ?_
        exact am_liret F hr ⟨Nat.le_of_ble_eq_true rfl, Nat.le_of_ble_eq_true rfl⟩ h dL_addRobot_20
      · have h := (if_neg c9).symm.trans h
        by_cases c11 : k6 = 3
        · have h := (if_pos c11).symm.trans h
          subst c11
          refine am_catch F hNC hT ⟨by decide, by decide⟩ [⟨0, 10, 13, 13⟩, ⟨0, 10, 17, 15⟩] ⟨0, 10, 21, 17⟩ [] rfl (by
              intro z hz
              simp only [List.mem_cons, List.not_mem_nil, or_false] at hz
              rcases hz with rfl | rfl
              · exact ⟨by decide, 1, by decide, by decide, by decide, wd_593⟩
              · exact ⟨by decide, 2, by decide, by decide, by decide, wd_673⟩) (by decide) (by decide) wd_674 nd_729 (fun q12 => ?_)
          refine am_astore F [(4, .ref q12), (0, .ref (z + 0)), (1, .int a1), (2, .int a2), (3, .ref (z + 186))] dL_addRobot_21 (by decide) rfl ?_
          refine am_iconst F (v := (3 : Int32)) dL_addRobot_23 (by decide) ?_
          exact am_liret F hr ⟨Nat.le_of_ble_eq_true rfl, Nat.le_of_ble_eq_true rfl⟩ h dL_addRobot_24
        · have h := (if_neg c11).symm.trans h
          cases h
/-! the law's robot(LAisleScheduler;II[J)I -/
abbrev rm_L_robot : Room := { frames := 8, cells := 2, slots := 12, locals := 145 }
theorem yn_L_robot : am_yn yL_robot 4 := ⟨⟨by decide +kernel, by decide +kernel⟩, by decide +kernel⟩
def g_L_robot (a1 : Int32) (a2 : Int32) (M : am_M) : Option (Int32 × am_M) := (am_bt (g_X9_robot a1 a2 M) (fun v4 M2 => (am_ci (0 : Int32) 1 (some ((0 : Int32), (am_ls M2 186 (0 : Int32).toNatClampNeg (v4.toInt64)))))) (fun k6 M2 => (if k6 = 1 then (some ((1 : Int32), M2)) else (if k6 = 2 then (some ((2 : Int32), M2)) else none))))
set_option maxHeartbeats 4000000 in
set_option maxRecDepth 100000 in
theorem c_L_robot (l : Launch) (hls : l.stackTraces = false) (D : va_G) (E : Nat → ClassId) (z : Nat) (a1 : Int32) (a2 : Int32) (M : am_M) (r0 : Int32) (M1 : am_M) (h : g_L_robot a1 a2 M = some (r0, M1)) : am_Li l yL_robot cL_robot 5 (some .int) [(0, 10, 13, 13), (0, 10, 17, 15)] rm_L_robot D E z [.ref (z + 0), .int a1, .int a2, .ref (z + 186)] M 2 12 r0 M1 := by
  unfold g_L_robot at h
  refine am_lof (own := RL) (by decide +kernel) rfl (by exact Nat.le_of_ble_eq_true rfl) ?_
  intro p e s m args below meth c F hr hNC hT
  show am_W p l e rm_L_robot s m args below meth c _ 5 D E z 0 0 M 0 [(0, .ref (z + 0)), (1, .int a1), (2, .int a2), (3, .ref (z + 186))] []
  refine am_aload_n F 3 dL_robot_0 rfl rfl ?_
  refine am_iconst F (v := (0 : Int32)) dL_robot_1 (by decide) ?_
  refine am_aload_n F 0 dL_robot_2 rfl rfl ?_
  refine am_iload_n F 1 dL_robot_3 rfl rfl ?_
  refine am_iload_n F 2 dL_robot_4 rfl rfl ?_
  obtain ⟨o3, M2, h1, h⟩ := am_btE h
  refine am_tcallVi F [.int a1, .int a2] lyk_0 (by decide) rfl cw_L_29 (c_X9_robot l hls D E z a1 a2 M o3 M2 h1) yn_X9_robot rfl ⟨Nat.le_of_ble_eq_true rfl, Nat.le_of_ble_eq_true rfl⟩ rfl rfl (Nat.le_of_ble_eq_true rfl) ⟨Nat.le_of_ble_eq_true rfl, Nat.le_of_ble_eq_true rfl⟩ dL_robot_5 rfl h (fun v4 h => ?_) (fun k6 h => ?_)
  · refine am_i2l F dL_robot_8 ?_
    obtain ⟨q5, h⟩ := am_ciE h
    refine am_last F lyk_186 q5 dL_robot_9 ?_
    refine am_goto F (tgt := 21) dL_robot_10 (by decide) ?_
    refine am_iconst F (v := (0 : Int32)) dL_robot_21 (by decide) ?_
    exact am_liret F hr ⟨Nat.le_of_ble_eq_true rfl, Nat.le_of_ble_eq_true rfl⟩ h dL_robot_22
  · skip
    by_cases c7 : k6 = 1
    · have h := (if_pos c7).symm.trans h
      subst c7
      refine am_catch F hNC hT ⟨by decide, by decide⟩ [] ⟨0, 10, 13, 13⟩ [⟨0, 10, 17, 15⟩] rfl (fun z hz => nomatch hz) (by decide) (by decide) wd_593 nd_700 (fun q8 => ?_)
      refine am_astore F [(4, .ref q8), (0, .ref (z + 0)), (1, .int a1), (2, .int a2), (3, .ref (z + 186))] dL_robot_13 (by decide) rfl ?_
      refine am_iconst F (v := (1 : Int32)) dL_robot_15 (by decide) ?_
      exact am_liret F hr ⟨Nat.le_of_ble_eq_true rfl, Nat.le_of_ble_eq_true rfl⟩ h dL_robot_16
    · have h := (if_neg c7).symm.trans h
      by_cases c9 : k6 = 2
      · have h := (if_pos c9).symm.trans h
        subst c9
        refine am_catch F hNC hT ⟨by decide, by decide⟩ [⟨0, 10, 13, 13⟩] ⟨0, 10, 17, 15⟩ [] rfl (by
            intro z hz
            simp only [List.mem_cons, List.not_mem_nil, or_false] at hz
            rcases hz with rfl
            · exact ⟨by decide, 1, by decide, by decide, by decide, wd_593⟩) (by decide) (by decide) wd_673 nd_713 (fun q10 => ?_)
        refine am_astore F [(4, .ref q10), (0, .ref (z + 0)), (1, .int a1), (2, .int a2), (3, .ref (z + 186))] dL_robot_17 (by decide) rfl ?_
        refine am_iconst F (v := (2 : Int32)) dL_robot_19 (by decide) ?_
        exact am_liret F hr ⟨Nat.le_of_ble_eq_true rfl, Nat.le_of_ble_eq_true rfl⟩ h dL_robot_20
      · have h := (if_neg c9).symm.trans h
        cases h
/-! the law's count(LAisleScheduler;I[J)I -/
abbrev rm_L_count : Room := { frames := 7, cells := 1, slots := 6, locals := 121 }
theorem yn_L_count : am_yn yL_count 3 := ⟨⟨by decide +kernel, by decide +kernel⟩, by decide +kernel⟩
def g_L_count (a1 : Int32) (M : am_M) : Option (Int32 × am_M) := (am_bt (g_X9_count a1 M) (fun v4 M2 => (am_ci (0 : Int32) 1 (some ((0 : Int32), (am_ls M2 186 (0 : Int32).toNatClampNeg (v4.toInt64)))))) (fun k6 M2 => (if k6 = 2 then (some ((1 : Int32), M2)) else none)))
set_option maxHeartbeats 4000000 in
set_option maxRecDepth 100000 in
theorem c_L_count (l : Launch) (hls : l.stackTraces = false) (D : va_G) (E : Nat → ClassId) (z : Nat) (a1 : Int32) (M : am_M) (r0 : Int32) (M1 : am_M) (h : g_L_count a1 M = some (r0, M1)) : am_Li l yL_count cL_count 4 (some .int) [(0, 9, 12, 15)] rm_L_count D E z [.ref (z + 0), .int a1, .ref (z + 186)] M 1 6 r0 M1 := by
  unfold g_L_count at h
  refine am_lof (own := RL) (by decide +kernel) rfl (by exact Nat.le_of_ble_eq_true rfl) ?_
  intro p e s m args below meth c F hr hNC hT
  show am_W p l e rm_L_count s m args below meth c _ 4 D E z 0 0 M 0 [(0, .ref (z + 0)), (1, .int a1), (2, .ref (z + 186))] []
  refine am_aload_n F 2 dL_count_0 rfl rfl ?_
  refine am_iconst F (v := (0 : Int32)) dL_count_1 (by decide) ?_
  refine am_aload_n F 0 dL_count_2 rfl rfl ?_
  refine am_iload_n F 1 dL_count_3 rfl rfl ?_
  obtain ⟨o3, M2, h1, h⟩ := am_btE h
  refine am_tcallVi F [.int a1] lyk_0 (by decide) rfl cw_L_32 (c_X9_count l hls D E z a1 M o3 M2 h1) yn_X9_count rfl ⟨Nat.le_of_ble_eq_true rfl, Nat.le_of_ble_eq_true rfl⟩ rfl rfl (Nat.le_of_ble_eq_true rfl) ⟨Nat.le_of_ble_eq_true rfl, Nat.le_of_ble_eq_true rfl⟩ dL_count_4 rfl h (fun v4 h => ?_) (fun k6 h => ?_)
  · refine am_i2l F dL_count_7 ?_
    obtain ⟨q5, h⟩ := am_ciE h
    refine am_last F lyk_186 q5 dL_count_8 ?_
    refine am_goto F (tgt := 15) dL_count_9 (by decide) ?_
    refine am_iconst F (v := (0 : Int32)) dL_count_15 (by decide) ?_
    exact am_liret F hr ⟨Nat.le_of_ble_eq_true rfl, Nat.le_of_ble_eq_true rfl⟩ h dL_count_16
  · skip
    by_cases c7 : k6 = 2
    · have h := (if_pos c7).symm.trans h
      subst c7
      refine am_catch F hNC hT ⟨by decide, by decide⟩ [] ⟨0, 9, 12, 15⟩ [] rfl (fun z hz => nomatch hz) (by decide) (by decide) wd_673 nd_713 (fun q8 => ?_)
      refine am_astore_n F [(3, .ref q8), (0, .ref (z + 0)), (1, .int a1), (2, .ref (z + 186))] dL_count_12 rfl (by decide) rfl ?_
      refine am_iconst F (v := (1 : Int32)) dL_count_13 (by decide) ?_
      exact am_liret F hr ⟨Nat.le_of_ble_eq_true rfl, Nat.le_of_ble_eq_true rfl⟩ h dL_count_14
    · have h := (if_neg c7).symm.trans h
      cases h
/-! the law's region(LAisleScheduler;I[J)I -/
abbrev rm_L_region : Room := { frames := 8, cells := 1, slots := 6, locals := 159 }
theorem yn_L_region : am_yn yL_region 3 := ⟨⟨by decide +kernel, by decide +kernel⟩, by decide +kernel⟩
def g_L_region (a1 : Int32) (M : am_M) : Option (Int32 × am_M) := (am_bt (g_X9_region a1 M) (fun v4 M2 => (am_ci (0 : Int32) 1 (some ((0 : Int32), (am_ls M2 186 (0 : Int32).toNatClampNeg (v4.toInt64)))))) (fun k6 M2 => (if k6 = 1 then (some ((1 : Int32), M2)) else none)))
set_option maxHeartbeats 4000000 in
set_option maxRecDepth 100000 in
theorem c_L_region (l : Launch) (hls : l.stackTraces = false) (D : va_G) (E : Nat → ClassId) (z : Nat) (a1 : Int32) (M : am_M) (r0 : Int32) (M1 : am_M) (h : g_L_region a1 M = some (r0, M1)) : am_Li l yL_region cL_region 4 (some .int) [(0, 9, 12, 13)] rm_L_region D E z [.ref (z + 0), .int a1, .ref (z + 186)] M 1 6 r0 M1 := by
  unfold g_L_region at h
  refine am_lof (own := RL) (by decide +kernel) rfl (by exact Nat.le_of_ble_eq_true rfl) ?_
  intro p e s m args below meth c F hr hNC hT
  show am_W p l e rm_L_region s m args below meth c _ 4 D E z 0 0 M 0 [(0, .ref (z + 0)), (1, .int a1), (2, .ref (z + 186))] []
  refine am_aload_n F 2 dL_region_0 rfl rfl ?_
  refine am_iconst F (v := (0 : Int32)) dL_region_1 (by decide) ?_
  refine am_aload_n F 0 dL_region_2 rfl rfl ?_
  refine am_iload_n F 1 dL_region_3 rfl rfl ?_
  obtain ⟨o3, M2, h1, h⟩ := am_btE h
  refine am_tcallVi F [.int a1] lyk_0 (by decide) rfl cw_L_35 (c_X9_region l hls D E z a1 M o3 M2 h1) yn_X9_region rfl ⟨Nat.le_of_ble_eq_true rfl, Nat.le_of_ble_eq_true rfl⟩ rfl rfl (Nat.le_of_ble_eq_true rfl) ⟨Nat.le_of_ble_eq_true rfl, Nat.le_of_ble_eq_true rfl⟩ dL_region_4 rfl h (fun v4 h => ?_) (fun k6 h => ?_)
  · refine am_i2l F dL_region_7 ?_
    obtain ⟨q5, h⟩ := am_ciE h
    refine am_last F lyk_186 q5 dL_region_8 ?_
    refine am_goto F (tgt := 15) dL_region_9 (by decide) ?_
    refine am_iconst F (v := (0 : Int32)) dL_region_15 (by decide) ?_
    exact am_liret F hr ⟨Nat.le_of_ble_eq_true rfl, Nat.le_of_ble_eq_true rfl⟩ h dL_region_16
  · skip
    by_cases c7 : k6 = 1
    · have h := (if_pos c7).symm.trans h
      subst c7
      refine am_catch F hNC hT ⟨by decide, by decide⟩ [] ⟨0, 9, 12, 13⟩ [] rfl (fun z hz => nomatch hz) (by decide) (by decide) wd_593 nd_700 (fun q8 => ?_)
      refine am_astore_n F [(3, .ref q8), (0, .ref (z + 0)), (1, .int a1), (2, .ref (z + 186))] dL_region_12 rfl (by decide) rfl ?_
      refine am_iconst F (v := (1 : Int32)) dL_region_13 (by decide) ?_
      exact am_liret F hr ⟨Nat.le_of_ble_eq_true rfl, Nat.le_of_ble_eq_true rfl⟩ h dL_region_14
    · have h := (if_neg c7).symm.trans h
      cases h
/-! the law's ticksBetween(LAisleScheduler;II[J)I -/
abbrev rm_L_ticksBetween : Room := { frames := 8, cells := 3, slots := 18, locals := 160 }
theorem yn_L_ticksBetween : am_yn yL_ticksBetween 4 := ⟨⟨by decide +kernel, by decide +kernel⟩, by decide +kernel⟩
def g_L_ticksBetween (a1 : Int32) (a2 : Int32) (M : am_M) : Option (Int32 × am_M) := (am_bt (g_X9_ticksBetween a1 a2 M) (fun v4 M2 => (am_ci (0 : Int32) 1 (some ((0 : Int32), (am_ls M2 186 (0 : Int32).toNatClampNeg (v4.toInt64)))))) (fun k6 M2 => (if k6 = 1 then (some ((1 : Int32), M2)) else (if k6 = 4 then (some ((2 : Int32), M2)) else none))))
set_option maxHeartbeats 4000000 in
set_option maxRecDepth 100000 in
theorem c_L_ticksBetween (l : Launch) (hls : l.stackTraces = false) (D : va_G) (E : Nat → ClassId) (z : Nat) (a1 : Int32) (a2 : Int32) (M : am_M) (r0 : Int32) (M1 : am_M) (h : g_L_ticksBetween a1 a2 M = some (r0, M1)) : am_Li l yL_ticksBetween cL_ticksBetween 5 (some .int) [(0, 10, 13, 13), (0, 10, 17, 41)] rm_L_ticksBetween D E z [.ref (z + 0), .int a1, .int a2, .ref (z + 186)] M 3 18 r0 M1 := by
  unfold g_L_ticksBetween at h
  refine am_lof (own := RL) (by decide +kernel) rfl (by exact Nat.le_of_ble_eq_true rfl) ?_
  intro p e s m args below meth c F hr hNC hT
  show am_W p l e rm_L_ticksBetween s m args below meth c _ 5 D E z 0 0 M 0 [(0, .ref (z + 0)), (1, .int a1), (2, .int a2), (3, .ref (z + 186))] []
  refine am_aload_n F 3 dL_ticksBetween_0 rfl rfl ?_
  refine am_iconst F (v := (0 : Int32)) dL_ticksBetween_1 (by decide) ?_
  refine am_aload_n F 0 dL_ticksBetween_2 rfl rfl ?_
  refine am_iload_n F 1 dL_ticksBetween_3 rfl rfl ?_
  refine am_iload_n F 2 dL_ticksBetween_4 rfl rfl ?_
  obtain ⟨o3, M2, h1, h⟩ := am_btE h
  refine am_tcallVi F [.int a1, .int a2] lyk_0 (by decide) rfl cw_L_38 (c_X9_ticksBetween l hls D E z a1 a2 M o3 M2 h1) yn_X9_ticksBetween rfl ⟨Nat.le_of_ble_eq_true rfl, Nat.le_of_ble_eq_true rfl⟩ rfl rfl (Nat.le_of_ble_eq_true rfl) ⟨Nat.le_of_ble_eq_true rfl, Nat.le_of_ble_eq_true rfl⟩ dL_ticksBetween_5 rfl h (fun v4 h => ?_) (fun k6 h => ?_)
  · refine am_i2l F dL_ticksBetween_8 ?_
    obtain ⟨q5, h⟩ := am_ciE h
    refine am_last F lyk_186 q5 dL_ticksBetween_9 ?_
    refine am_goto F (tgt := 21) dL_ticksBetween_10 (by decide) ?_
    refine am_iconst F (v := (0 : Int32)) dL_ticksBetween_21 (by decide) ?_
    exact am_liret F hr ⟨Nat.le_of_ble_eq_true rfl, Nat.le_of_ble_eq_true rfl⟩ h dL_ticksBetween_22
  · skip
    by_cases c7 : k6 = 1
    · have h := (if_pos c7).symm.trans h
      subst c7
      refine am_catch F hNC hT ⟨by decide, by decide⟩ [] ⟨0, 10, 13, 13⟩ [⟨0, 10, 17, 41⟩] rfl (fun z hz => nomatch hz) (by decide) (by decide) wd_593 nd_700 (fun q8 => ?_)
      refine am_astore F [(4, .ref q8), (0, .ref (z + 0)), (1, .int a1), (2, .int a2), (3, .ref (z + 186))] dL_ticksBetween_13 (by decide) rfl ?_
      refine am_iconst F (v := (1 : Int32)) dL_ticksBetween_15 (by decide) ?_
      exact am_liret F hr ⟨Nat.le_of_ble_eq_true rfl, Nat.le_of_ble_eq_true rfl⟩ h dL_ticksBetween_16
    · have h := (if_neg c7).symm.trans h
      by_cases c9 : k6 = 4
      · have h := (if_pos c9).symm.trans h
        subst c9
        refine am_catch F hNC hT ⟨by decide, by decide⟩ [⟨0, 10, 13, 13⟩] ⟨0, 10, 17, 41⟩ [] rfl (by
            intro z hz
            simp only [List.mem_cons, List.not_mem_nil, or_false] at hz
            rcases hz with rfl
            · exact ⟨by decide, 1, by decide, by decide, by decide, wd_593⟩) (by decide) (by decide) wd_847 nd_859 (fun q10 => ?_)
        refine am_astore F [(4, .ref q10), (0, .ref (z + 0)), (1, .int a1), (2, .int a2), (3, .ref (z + 186))] dL_ticksBetween_17 (by decide) rfl ?_
        refine am_iconst F (v := (2 : Int32)) dL_ticksBetween_19 (by decide) ?_
        exact am_liret F hr ⟨Nat.le_of_ble_eq_true rfl, Nat.le_of_ble_eq_true rfl⟩ h dL_ticksBetween_20
      · have h := (if_neg c9).symm.trans h
        cases h
/-! the law's plan(LAisleScheduler;II[J)I -/
abbrev rm_L_plan : Room := { frames := 9, cells := 5, slots := 30, locals := 199 }
theorem yn_L_plan : am_yn yL_plan 4 := ⟨⟨by decide +kernel, by decide +kernel⟩, by decide +kernel⟩
def g_L_plan (a1 : Int32) (a2 : Int32) (M : am_M) : Option (Int32 × am_M) := (am_bt (g_X9_plan a1 a2 M) (fun v4 M2 => (am_ci (0 : Int32) 1 (some ((0 : Int32), (am_ls M2 186 (0 : Int32).toNatClampNeg (v4.toInt64)))))) (fun k6 M2 => (if k6 = 1 then (some ((1 : Int32), M2)) else (if k6 = 3 then (some ((2 : Int32), M2)) else (if k6 = 4 then (some ((3 : Int32), M2)) else (if k6 = 5 then (some ((4 : Int32), M2)) else none))))))
set_option maxHeartbeats 4000000 in
set_option maxRecDepth 100000 in
theorem c_L_plan (l : Launch) (hls : l.stackTraces = false) (D : va_G) (E : Nat → ClassId) (z : Nat) (a1 : Int32) (a2 : Int32) (M : am_M) (r0 : Int32) (M1 : am_M) (h : g_L_plan a1 a2 M = some (r0, M1)) : am_Li l yL_plan cL_plan 5 (some .int) [(0, 10, 13, 13), (0, 10, 17, 17), (0, 10, 21, 41), (0, 10, 25, 46)] rm_L_plan D E z [.ref (z + 0), .int a1, .int a2, .ref (z + 186)] M 5 30 r0 M1 := by
  unfold g_L_plan at h
  refine am_lof (own := RL) (by decide +kernel) rfl (by exact Nat.le_of_ble_eq_true rfl) ?_
  intro p e s m args below meth c F hr hNC hT
  show am_W p l e rm_L_plan s m args below meth c _ 5 D E z 0 0 M 0 [(0, .ref (z + 0)), (1, .int a1), (2, .int a2), (3, .ref (z + 186))] []
  refine am_aload_n F 3 dL_plan_0 rfl rfl ?_
  refine am_iconst F (v := (0 : Int32)) dL_plan_1 (by decide) ?_
  refine am_aload_n F 0 dL_plan_2 rfl rfl ?_
  refine am_iload_n F 1 dL_plan_3 rfl rfl ?_
  refine am_iload_n F 2 dL_plan_4 rfl rfl ?_
  obtain ⟨o3, M2, h1, h⟩ := am_btE h
  refine am_tcallVi F [.int a1, .int a2] lyk_0 (by decide) rfl cw_L_43 (c_X9_plan l hls D E z a1 a2 M o3 M2 h1) yn_X9_plan rfl ⟨Nat.le_of_ble_eq_true rfl, Nat.le_of_ble_eq_true rfl⟩ rfl rfl (Nat.le_of_ble_eq_true rfl) ⟨Nat.le_of_ble_eq_true rfl, Nat.le_of_ble_eq_true rfl⟩ dL_plan_5 rfl h (fun v4 h => ?_) (fun k6 h => ?_)
  · refine am_i2l F dL_plan_8 ?_
    obtain ⟨q5, h⟩ := am_ciE h
    refine am_last F lyk_186 q5 dL_plan_9 ?_
    refine am_goto F (tgt := 29) dL_plan_10 (by decide) ?_
    refine am_iconst F (v := (0 : Int32)) dL_plan_29 (by decide) ?_
    exact am_liret F hr ⟨Nat.le_of_ble_eq_true rfl, Nat.le_of_ble_eq_true rfl⟩ h dL_plan_30
  · skip
    by_cases c7 : k6 = 1
    · have h := (if_pos c7).symm.trans h
      subst c7
      refine am_catch F hNC hT ⟨by decide, by decide⟩ [] ⟨0, 10, 13, 13⟩ [⟨0, 10, 17, 17⟩, ⟨0, 10, 21, 41⟩, ⟨0, 10, 25, 46⟩] rfl (fun z hz => nomatch hz) (by decide) (by decide) wd_593 nd_700 (fun q8 => ?_)
      refine am_astore F [(4, .ref q8), (0, .ref (z + 0)), (1, .int a1), (2, .int a2), (3, .ref (z + 186))] dL_plan_13 (by decide) rfl ?_
      refine am_iconst F (v := (1 : Int32)) dL_plan_15 (by decide) ?_
      exact am_liret F hr ⟨Nat.le_of_ble_eq_true rfl, Nat.le_of_ble_eq_true rfl⟩ h dL_plan_16
    · have h := (if_neg c7).symm.trans h
      by_cases c9 : k6 = 3
      · have h := (if_pos c9).symm.trans h
        subst c9
        refine am_catch F hNC hT ⟨by decide, by decide⟩ [⟨0, 10, 13, 13⟩] ⟨0, 10, 17, 17⟩ [⟨0, 10, 21, 41⟩, ⟨0, 10, 25, 46⟩] rfl (by
            intro z hz
            simp only [List.mem_cons, List.not_mem_nil, or_false] at hz
            rcases hz with rfl
            · exact ⟨by decide, 1, by decide, by decide, by decide, wd_593⟩) (by decide) (by decide) wd_674 nd_729 (fun q10 => ?_)
        refine am_astore F [(4, .ref q10), (0, .ref (z + 0)), (1, .int a1), (2, .int a2), (3, .ref (z + 186))] dL_plan_17 (by decide) rfl ?_
        refine am_iconst F (v := (2 : Int32)) dL_plan_19 (by decide) ?_
        exact am_liret F hr ⟨Nat.le_of_ble_eq_true rfl, Nat.le_of_ble_eq_true rfl⟩ h dL_plan_20
      · have h := (if_neg c9).symm.trans h
        by_cases c11 : k6 = 4
        · have h := (if_pos c11).symm.trans h
          subst c11
          refine am_catch F hNC hT ⟨by decide, by decide⟩ [⟨0, 10, 13, 13⟩, ⟨0, 10, 17, 17⟩] ⟨0, 10, 21, 41⟩ [⟨0, 10, 25, 46⟩] rfl (by
              intro z hz
              simp only [List.mem_cons, List.not_mem_nil, or_false] at hz
              rcases hz with rfl | rfl
              · exact ⟨by decide, 1, by decide, by decide, by decide, wd_593⟩
              · exact ⟨by decide, 3, by decide, by decide, by decide, wd_674⟩) (by decide) (by decide) wd_847 nd_859 (fun q12 => ?_)
          refine am_astore F [(4, .ref q12), (0, .ref (z + 0)), (1, .int a1), (2, .int a2), (3, .ref (z + 186))] dL_plan_21 (by decide) rfl ?_
          refine am_iconst F (v := (3 : Int32)) dL_plan_23 (by decide) ?_
          exact am_liret F hr ⟨Nat.le_of_ble_eq_true rfl, Nat.le_of_ble_eq_true rfl⟩ h dL_plan_24
        · have h := (if_neg c11).symm.trans h
          by_cases c13 : k6 = 5
          · have h := (if_pos c13).symm.trans h
            subst c13
            refine am_catch F hNC hT ⟨by decide, by decide⟩ [⟨0, 10, 13, 13⟩, ⟨0, 10, 17, 17⟩, ⟨0, 10, 21, 41⟩] ⟨0, 10, 25, 46⟩ [] rfl (by
                intro z hz
                simp only [List.mem_cons, List.not_mem_nil, or_false] at hz
                rcases hz with rfl | rfl | rfl
                · exact ⟨by decide, 1, by decide, by decide, by decide, wd_593⟩
                · exact ⟨by decide, 3, by decide, by decide, by decide, wd_674⟩
                · exact ⟨by decide, 4, by decide, by decide, by decide, wd_847⟩) (by decide) (by decide) wd_876 nd_899 (fun q14 => ?_)
            refine am_astore F [(4, .ref q14), (0, .ref (z + 0)), (1, .int a1), (2, .int a2), (3, .ref (z + 186))] dL_plan_25 (by decide) rfl ?_
            refine am_iconst F (v := (4 : Int32)) dL_plan_27 (by decide) ?_
            exact am_liret F hr ⟨Nat.le_of_ble_eq_true rfl, Nat.le_of_ble_eq_true rfl⟩ h dL_plan_28
          · have h := (if_neg c13).symm.trans h
            cases h
/-! the law's arrival(LAisleScheduler;II[J)I -/
abbrev rm_L_arrival : Room := { frames := 9, cells := 4, slots := 24, locals := 199 }
theorem yn_L_arrival : am_yn yL_arrival 4 := ⟨⟨by decide +kernel, by decide +kernel⟩, by decide +kernel⟩
def g_L_arrival (a1 : Int32) (a2 : Int32) (M : am_M) : Option (Int32 × am_M) := (am_bt (g_X9_arrival a1 a2 M) (fun v4 M2 => (am_ci (0 : Int32) 1 (some ((0 : Int32), (am_ls M2 186 (0 : Int32).toNatClampNeg (v4.toInt64)))))) (fun k6 M2 => (if k6 = 1 then (some ((1 : Int32), M2)) else (if k6 = 3 then (some ((2 : Int32), M2)) else (if k6 = 4 then (some ((3 : Int32), M2)) else none)))))
set_option maxHeartbeats 4000000 in
set_option maxRecDepth 100000 in
theorem c_L_arrival (l : Launch) (hls : l.stackTraces = false) (D : va_G) (E : Nat → ClassId) (z : Nat) (a1 : Int32) (a2 : Int32) (M : am_M) (r0 : Int32) (M1 : am_M) (h : g_L_arrival a1 a2 M = some (r0, M1)) : am_Li l yL_arrival cL_arrival 5 (some .int) [(0, 10, 13, 13), (0, 10, 17, 17), (0, 10, 21, 41)] rm_L_arrival D E z [.ref (z + 0), .int a1, .int a2, .ref (z + 186)] M 4 24 r0 M1 := by
  unfold g_L_arrival at h
  refine am_lof (own := RL) (by decide +kernel) rfl (by exact Nat.le_of_ble_eq_true rfl) ?_
  intro p e s m args below meth c F hr hNC hT
  show am_W p l e rm_L_arrival s m args below meth c _ 5 D E z 0 0 M 0 [(0, .ref (z + 0)), (1, .int a1), (2, .int a2), (3, .ref (z + 186))] []
  refine am_aload_n F 3 dL_arrival_0 rfl rfl ?_
  refine am_iconst F (v := (0 : Int32)) dL_arrival_1 (by decide) ?_
  refine am_aload_n F 0 dL_arrival_2 rfl rfl ?_
  refine am_iload_n F 1 dL_arrival_3 rfl rfl ?_
  refine am_iload_n F 2 dL_arrival_4 rfl rfl ?_
  obtain ⟨o3, M2, h1, h⟩ := am_btE h
  refine am_tcallVi F [.int a1, .int a2] lyk_0 (by decide) rfl cw_L_48 (c_X9_arrival l hls D E z a1 a2 M o3 M2 h1) yn_X9_arrival rfl ⟨Nat.le_of_ble_eq_true rfl, Nat.le_of_ble_eq_true rfl⟩ rfl rfl (Nat.le_of_ble_eq_true rfl) ⟨Nat.le_of_ble_eq_true rfl, Nat.le_of_ble_eq_true rfl⟩ dL_arrival_5 rfl h (fun v4 h => ?_) (fun k6 h => ?_)
  · refine am_i2l F dL_arrival_8 ?_
    obtain ⟨q5, h⟩ := am_ciE h
    refine am_last F lyk_186 q5 dL_arrival_9 ?_
    refine am_goto F (tgt := 25) dL_arrival_10 (by decide) ?_
    refine am_iconst F (v := (0 : Int32)) dL_arrival_25 (by decide) ?_
    exact am_liret F hr ⟨Nat.le_of_ble_eq_true rfl, Nat.le_of_ble_eq_true rfl⟩ h dL_arrival_26
  · skip
    by_cases c7 : k6 = 1
    · have h := (if_pos c7).symm.trans h
      subst c7
      refine am_catch F hNC hT ⟨by decide, by decide⟩ [] ⟨0, 10, 13, 13⟩ [⟨0, 10, 17, 17⟩, ⟨0, 10, 21, 41⟩] rfl (fun z hz => nomatch hz) (by decide) (by decide) wd_593 nd_700 (fun q8 => ?_)
      refine am_astore F [(4, .ref q8), (0, .ref (z + 0)), (1, .int a1), (2, .int a2), (3, .ref (z + 186))] dL_arrival_13 (by decide) rfl ?_
      refine am_iconst F (v := (1 : Int32)) dL_arrival_15 (by decide) ?_
      exact am_liret F hr ⟨Nat.le_of_ble_eq_true rfl, Nat.le_of_ble_eq_true rfl⟩ h dL_arrival_16
    · have h := (if_neg c7).symm.trans h
      by_cases c9 : k6 = 3
      · have h := (if_pos c9).symm.trans h
        subst c9
        refine am_catch F hNC hT ⟨by decide, by decide⟩ [⟨0, 10, 13, 13⟩] ⟨0, 10, 17, 17⟩ [⟨0, 10, 21, 41⟩] rfl (by
            intro z hz
            simp only [List.mem_cons, List.not_mem_nil, or_false] at hz
            rcases hz with rfl
            · exact ⟨by decide, 1, by decide, by decide, by decide, wd_593⟩) (by decide) (by decide) wd_674 nd_729 (fun q10 => ?_)
        refine am_astore F [(4, .ref q10), (0, .ref (z + 0)), (1, .int a1), (2, .int a2), (3, .ref (z + 186))] dL_arrival_17 (by decide) rfl ?_
        refine am_iconst F (v := (2 : Int32)) dL_arrival_19 (by decide) ?_
        exact am_liret F hr ⟨Nat.le_of_ble_eq_true rfl, Nat.le_of_ble_eq_true rfl⟩ h dL_arrival_20
      · have h := (if_neg c9).symm.trans h
        by_cases c11 : k6 = 4
        · have h := (if_pos c11).symm.trans h
          subst c11
          refine am_catch F hNC hT ⟨by decide, by decide⟩ [⟨0, 10, 13, 13⟩, ⟨0, 10, 17, 17⟩] ⟨0, 10, 21, 41⟩ [] rfl (by
              intro z hz
              simp only [List.mem_cons, List.not_mem_nil, or_false] at hz
              rcases hz with rfl | rfl
              · exact ⟨by decide, 1, by decide, by decide, by decide, wd_593⟩
              · exact ⟨by decide, 3, by decide, by decide, by decide, wd_674⟩) (by decide) (by decide) wd_847 nd_859 (fun q12 => ?_)
          refine am_astore F [(4, .ref q12), (0, .ref (z + 0)), (1, .int a1), (2, .int a2), (3, .ref (z + 186))] dL_arrival_21 (by decide) rfl ?_
          refine am_iconst F (v := (3 : Int32)) dL_arrival_23 (by decide) ?_
          exact am_liret F hr ⟨Nat.le_of_ble_eq_true rfl, Nat.le_of_ble_eq_true rfl⟩ h dL_arrival_24
        · have h := (if_neg c11).symm.trans h
          cases h
/-! the law's routeCost(LAisleScheduler;II[J)I -/
abbrev rm_L_routeCost : Room := { frames := 9, cells := 4, slots := 24, locals := 199 }
theorem yn_L_routeCost : am_yn yL_routeCost 4 := ⟨⟨by decide +kernel, by decide +kernel⟩, by decide +kernel⟩
def g_L_routeCost (a1 : Int32) (a2 : Int32) (M : am_M) : Option (Int32 × am_M) := (am_bt (g_X9_routeCost a1 a2 M) (fun v4 M2 => (am_ci (0 : Int32) 1 (some ((0 : Int32), (am_ls M2 186 (0 : Int32).toNatClampNeg (v4.toInt64)))))) (fun k6 M2 => (if k6 = 1 then (some ((1 : Int32), M2)) else (if k6 = 3 then (some ((2 : Int32), M2)) else (if k6 = 4 then (some ((3 : Int32), M2)) else none)))))
set_option maxHeartbeats 4000000 in
set_option maxRecDepth 100000 in
theorem c_L_routeCost (l : Launch) (hls : l.stackTraces = false) (D : va_G) (E : Nat → ClassId) (z : Nat) (a1 : Int32) (a2 : Int32) (M : am_M) (r0 : Int32) (M1 : am_M) (h : g_L_routeCost a1 a2 M = some (r0, M1)) : am_Li l yL_routeCost cL_routeCost 5 (some .int) [(0, 10, 13, 13), (0, 10, 17, 17), (0, 10, 21, 41)] rm_L_routeCost D E z [.ref (z + 0), .int a1, .int a2, .ref (z + 186)] M 4 24 r0 M1 := by
  unfold g_L_routeCost at h
  refine am_lof (own := RL) (by decide +kernel) rfl (by exact Nat.le_of_ble_eq_true rfl) ?_
  intro p e s m args below meth c F hr hNC hT
  show am_W p l e rm_L_routeCost s m args below meth c _ 5 D E z 0 0 M 0 [(0, .ref (z + 0)), (1, .int a1), (2, .int a2), (3, .ref (z + 186))] []
  refine am_aload_n F 3 dL_routeCost_0 rfl rfl ?_
  refine am_iconst F (v := (0 : Int32)) dL_routeCost_1 (by decide) ?_
  refine am_aload_n F 0 dL_routeCost_2 rfl rfl ?_
  refine am_iload_n F 1 dL_routeCost_3 rfl rfl ?_
  refine am_iload_n F 2 dL_routeCost_4 rfl rfl ?_
  obtain ⟨o3, M2, h1, h⟩ := am_btE h
  refine am_tcallVi F [.int a1, .int a2] lyk_0 (by decide) rfl cw_L_51 (c_X9_routeCost l hls D E z a1 a2 M o3 M2 h1) yn_X9_routeCost rfl ⟨Nat.le_of_ble_eq_true rfl, Nat.le_of_ble_eq_true rfl⟩ rfl rfl (Nat.le_of_ble_eq_true rfl) ⟨Nat.le_of_ble_eq_true rfl, Nat.le_of_ble_eq_true rfl⟩ dL_routeCost_5 rfl h (fun v4 h => ?_) (fun k6 h => ?_)
  · refine am_i2l F dL_routeCost_8 ?_
    obtain ⟨q5, h⟩ := am_ciE h
    refine am_last F lyk_186 q5 dL_routeCost_9 ?_
    refine am_goto F (tgt := 25) dL_routeCost_10 (by decide) ?_
    refine am_iconst F (v := (0 : Int32)) dL_routeCost_25 (by decide) ?_
    exact am_liret F hr ⟨Nat.le_of_ble_eq_true rfl, Nat.le_of_ble_eq_true rfl⟩ h dL_routeCost_26
  · skip
    by_cases c7 : k6 = 1
    · have h := (if_pos c7).symm.trans h
      subst c7
      refine am_catch F hNC hT ⟨by decide, by decide⟩ [] ⟨0, 10, 13, 13⟩ [⟨0, 10, 17, 17⟩, ⟨0, 10, 21, 41⟩] rfl (fun z hz => nomatch hz) (by decide) (by decide) wd_593 nd_700 (fun q8 => ?_)
      refine am_astore F [(4, .ref q8), (0, .ref (z + 0)), (1, .int a1), (2, .int a2), (3, .ref (z + 186))] dL_routeCost_13 (by decide) rfl ?_
      refine am_iconst F (v := (1 : Int32)) dL_routeCost_15 (by decide) ?_
      exact am_liret F hr ⟨Nat.le_of_ble_eq_true rfl, Nat.le_of_ble_eq_true rfl⟩ h dL_routeCost_16
    · have h := (if_neg c7).symm.trans h
      by_cases c9 : k6 = 3
      · have h := (if_pos c9).symm.trans h
        subst c9
        refine am_catch F hNC hT ⟨by decide, by decide⟩ [⟨0, 10, 13, 13⟩] ⟨0, 10, 17, 17⟩ [⟨0, 10, 21, 41⟩] rfl (by
            intro z hz
            simp only [List.mem_cons, List.not_mem_nil, or_false] at hz
            rcases hz with rfl
            · exact ⟨by decide, 1, by decide, by decide, by decide, wd_593⟩) (by decide) (by decide) wd_674 nd_729 (fun q10 => ?_)
        refine am_astore F [(4, .ref q10), (0, .ref (z + 0)), (1, .int a1), (2, .int a2), (3, .ref (z + 186))] dL_routeCost_17 (by decide) rfl ?_
        refine am_iconst F (v := (2 : Int32)) dL_routeCost_19 (by decide) ?_
        exact am_liret F hr ⟨Nat.le_of_ble_eq_true rfl, Nat.le_of_ble_eq_true rfl⟩ h dL_routeCost_20
      · have h := (if_neg c9).symm.trans h
        by_cases c11 : k6 = 4
        · have h := (if_pos c11).symm.trans h
          subst c11
          refine am_catch F hNC hT ⟨by decide, by decide⟩ [⟨0, 10, 13, 13⟩, ⟨0, 10, 17, 17⟩] ⟨0, 10, 21, 41⟩ [] rfl (by
              intro z hz
              simp only [List.mem_cons, List.not_mem_nil, or_false] at hz
              rcases hz with rfl | rfl
              · exact ⟨by decide, 1, by decide, by decide, by decide, wd_593⟩
              · exact ⟨by decide, 3, by decide, by decide, by decide, wd_674⟩) (by decide) (by decide) wd_847 nd_859 (fun q12 => ?_)
          refine am_astore F [(4, .ref q12), (0, .ref (z + 0)), (1, .int a1), (2, .int a2), (3, .ref (z + 186))] dL_routeCost_21 (by decide) rfl ?_
          refine am_iconst F (v := (3 : Int32)) dL_routeCost_23 (by decide) ?_
          exact am_liret F hr ⟨Nat.le_of_ble_eq_true rfl, Nat.le_of_ble_eq_true rfl⟩ h dL_routeCost_24
        · have h := (if_neg c11).symm.trans h
          cases h
/-! the law's action(LAisleScheduler;II[J)I -/
abbrev rm_L_action : Room := { frames := 8, cells := 2, slots := 12, locals := 144 }
theorem yn_L_action : am_yn yL_action 4 := ⟨⟨by decide +kernel, by decide +kernel⟩, by decide +kernel⟩
def g_L_action (a1 : Int32) (a2 : Int32) (M : am_M) : Option (Int32 × am_M) := (am_bt (g_X9_action a1 a2 M) (fun v4 M2 => (am_ci (0 : Int32) 1 (some ((0 : Int32), (am_ls M2 186 (0 : Int32).toNatClampNeg (v4.toInt64)))))) (fun k6 M2 => (if k6 = 1 then (some ((1 : Int32), M2)) else (if k6 = 4 then (some ((2 : Int32), M2)) else none))))
set_option maxHeartbeats 4000000 in
set_option maxRecDepth 100000 in
theorem c_L_action (l : Launch) (hls : l.stackTraces = false) (D : va_G) (E : Nat → ClassId) (z : Nat) (a1 : Int32) (a2 : Int32) (M : am_M) (r0 : Int32) (M1 : am_M) (h : g_L_action a1 a2 M = some (r0, M1)) : am_Li l yL_action cL_action 5 (some .int) [(0, 10, 13, 13), (0, 10, 17, 41)] rm_L_action D E z [.ref (z + 0), .int a1, .int a2, .ref (z + 186)] M 2 12 r0 M1 := by
  unfold g_L_action at h
  refine am_lof (own := RL) (by decide +kernel) rfl (by exact Nat.le_of_ble_eq_true rfl) ?_
  intro p e s m args below meth c F hr hNC hT
  show am_W p l e rm_L_action s m args below meth c _ 5 D E z 0 0 M 0 [(0, .ref (z + 0)), (1, .int a1), (2, .int a2), (3, .ref (z + 186))] []
  refine am_aload_n F 3 dL_action_0 rfl rfl ?_
  refine am_iconst F (v := (0 : Int32)) dL_action_1 (by decide) ?_
  refine am_aload_n F 0 dL_action_2 rfl rfl ?_
  refine am_iload_n F 1 dL_action_3 rfl rfl ?_
  refine am_iload_n F 2 dL_action_4 rfl rfl ?_
  obtain ⟨o3, M2, h1, h⟩ := am_btE h
  refine am_tcallVi F [.int a1, .int a2] lyk_0 (by decide) rfl cw_L_54 (c_X9_action l hls D E z a1 a2 M o3 M2 h1) yn_X9_action rfl ⟨Nat.le_of_ble_eq_true rfl, Nat.le_of_ble_eq_true rfl⟩ rfl rfl (Nat.le_of_ble_eq_true rfl) ⟨Nat.le_of_ble_eq_true rfl, Nat.le_of_ble_eq_true rfl⟩ dL_action_5 rfl h (fun v4 h => ?_) (fun k6 h => ?_)
  · refine am_i2l F dL_action_8 ?_
    obtain ⟨q5, h⟩ := am_ciE h
    refine am_last F lyk_186 q5 dL_action_9 ?_
    refine am_goto F (tgt := 21) dL_action_10 (by decide) ?_
    refine am_iconst F (v := (0 : Int32)) dL_action_21 (by decide) ?_
    exact am_liret F hr ⟨Nat.le_of_ble_eq_true rfl, Nat.le_of_ble_eq_true rfl⟩ h dL_action_22
  · skip
    by_cases c7 : k6 = 1
    · have h := (if_pos c7).symm.trans h
      subst c7
      refine am_catch F hNC hT ⟨by decide, by decide⟩ [] ⟨0, 10, 13, 13⟩ [⟨0, 10, 17, 41⟩] rfl (fun z hz => nomatch hz) (by decide) (by decide) wd_593 nd_700 (fun q8 => ?_)
      refine am_astore F [(4, .ref q8), (0, .ref (z + 0)), (1, .int a1), (2, .int a2), (3, .ref (z + 186))] dL_action_13 (by decide) rfl ?_
      refine am_iconst F (v := (1 : Int32)) dL_action_15 (by decide) ?_
      exact am_liret F hr ⟨Nat.le_of_ble_eq_true rfl, Nat.le_of_ble_eq_true rfl⟩ h dL_action_16
    · have h := (if_neg c7).symm.trans h
      by_cases c9 : k6 = 4
      · have h := (if_pos c9).symm.trans h
        subst c9
        refine am_catch F hNC hT ⟨by decide, by decide⟩ [⟨0, 10, 13, 13⟩] ⟨0, 10, 17, 41⟩ [] rfl (by
            intro z hz
            simp only [List.mem_cons, List.not_mem_nil, or_false] at hz
            rcases hz with rfl
            · exact ⟨by decide, 1, by decide, by decide, by decide, wd_593⟩) (by decide) (by decide) wd_847 nd_859 (fun q10 => ?_)
        refine am_astore F [(4, .ref q10), (0, .ref (z + 0)), (1, .int a1), (2, .int a2), (3, .ref (z + 186))] dL_action_17 (by decide) rfl ?_
        refine am_iconst F (v := (2 : Int32)) dL_action_19 (by decide) ?_
        exact am_liret F hr ⟨Nat.le_of_ble_eq_true rfl, Nat.le_of_ble_eq_true rfl⟩ h dL_action_20
      · have h := (if_neg c9).symm.trans h
        cases h
/-! the law's cellAfter(LAisleScheduler;II[J)I -/
abbrev rm_L_cellAfter : Room := { frames := 8, cells := 2, slots := 12, locals := 143 }
theorem yn_L_cellAfter : am_yn yL_cellAfter 4 := ⟨⟨by decide +kernel, by decide +kernel⟩, by decide +kernel⟩
def g_L_cellAfter (a1 : Int32) (a2 : Int32) (M : am_M) : Option (Int32 × am_M) := (am_bt (g_X9_cellAfter a1 a2 M) (fun v4 M2 => (am_ci (0 : Int32) 1 (some ((0 : Int32), (am_ls M2 186 (0 : Int32).toNatClampNeg (v4.toInt64)))))) (fun k6 M2 => (if k6 = 1 then (some ((1 : Int32), M2)) else (if k6 = 2 then (some ((2 : Int32), M2)) else none))))
set_option maxHeartbeats 4000000 in
set_option maxRecDepth 100000 in
theorem c_L_cellAfter (l : Launch) (hls : l.stackTraces = false) (D : va_G) (E : Nat → ClassId) (z : Nat) (a1 : Int32) (a2 : Int32) (M : am_M) (r0 : Int32) (M1 : am_M) (h : g_L_cellAfter a1 a2 M = some (r0, M1)) : am_Li l yL_cellAfter cL_cellAfter 5 (some .int) [(0, 10, 13, 13), (0, 10, 17, 15)] rm_L_cellAfter D E z [.ref (z + 0), .int a1, .int a2, .ref (z + 186)] M 2 12 r0 M1 := by
  unfold g_L_cellAfter at h
  refine am_lof (own := RL) (by decide +kernel) rfl (by exact Nat.le_of_ble_eq_true rfl) ?_
  intro p e s m args below meth c F hr hNC hT
  show am_W p l e rm_L_cellAfter s m args below meth c _ 5 D E z 0 0 M 0 [(0, .ref (z + 0)), (1, .int a1), (2, .int a2), (3, .ref (z + 186))] []
  refine am_aload_n F 3 dL_cellAfter_0 rfl rfl ?_
  refine am_iconst F (v := (0 : Int32)) dL_cellAfter_1 (by decide) ?_
  refine am_aload_n F 0 dL_cellAfter_2 rfl rfl ?_
  refine am_iload_n F 1 dL_cellAfter_3 rfl rfl ?_
  refine am_iload_n F 2 dL_cellAfter_4 rfl rfl ?_
  obtain ⟨o3, M2, h1, h⟩ := am_btE h
  refine am_tcallVi F [.int a1, .int a2] lyk_0 (by decide) rfl cw_L_57 (c_X9_cellAfter l hls D E z a1 a2 M o3 M2 h1) yn_X9_cellAfter rfl ⟨Nat.le_of_ble_eq_true rfl, Nat.le_of_ble_eq_true rfl⟩ rfl rfl (Nat.le_of_ble_eq_true rfl) ⟨Nat.le_of_ble_eq_true rfl, Nat.le_of_ble_eq_true rfl⟩ dL_cellAfter_5 rfl h (fun v4 h => ?_) (fun k6 h => ?_)
  · refine am_i2l F dL_cellAfter_8 ?_
    obtain ⟨q5, h⟩ := am_ciE h
    refine am_last F lyk_186 q5 dL_cellAfter_9 ?_
    refine am_goto F (tgt := 21) dL_cellAfter_10 (by decide) ?_
    refine am_iconst F (v := (0 : Int32)) dL_cellAfter_21 (by decide) ?_
    exact am_liret F hr ⟨Nat.le_of_ble_eq_true rfl, Nat.le_of_ble_eq_true rfl⟩ h dL_cellAfter_22
  · skip
    by_cases c7 : k6 = 1
    · have h := (if_pos c7).symm.trans h
      subst c7
      refine am_catch F hNC hT ⟨by decide, by decide⟩ [] ⟨0, 10, 13, 13⟩ [⟨0, 10, 17, 15⟩] rfl (fun z hz => nomatch hz) (by decide) (by decide) wd_593 nd_700 (fun q8 => ?_)
      refine am_astore F [(4, .ref q8), (0, .ref (z + 0)), (1, .int a1), (2, .int a2), (3, .ref (z + 186))] dL_cellAfter_13 (by decide) rfl ?_
      refine am_iconst F (v := (1 : Int32)) dL_cellAfter_15 (by decide) ?_
      exact am_liret F hr ⟨Nat.le_of_ble_eq_true rfl, Nat.le_of_ble_eq_true rfl⟩ h dL_cellAfter_16
    · have h := (if_neg c7).symm.trans h
      by_cases c9 : k6 = 2
      · have h := (if_pos c9).symm.trans h
        subst c9
        refine am_catch F hNC hT ⟨by decide, by decide⟩ [⟨0, 10, 13, 13⟩] ⟨0, 10, 17, 15⟩ [] rfl (by
            intro z hz
            simp only [List.mem_cons, List.not_mem_nil, or_false] at hz
            rcases hz with rfl
            · exact ⟨by decide, 1, by decide, by decide, by decide, wd_593⟩) (by decide) (by decide) wd_673 nd_713 (fun q10 => ?_)
        refine am_astore F [(4, .ref q10), (0, .ref (z + 0)), (1, .int a1), (2, .int a2), (3, .ref (z + 186))] dL_cellAfter_17 (by decide) rfl ?_
        refine am_iconst F (v := (2 : Int32)) dL_cellAfter_19 (by decide) ?_
        exact am_liret F hr ⟨Nat.le_of_ble_eq_true rfl, Nat.le_of_ble_eq_true rfl⟩ h dL_cellAfter_20
      · have h := (if_neg c9).symm.trans h
        cases h
/-! the law's robotAt(LAisleScheduler;II[J)I -/
abbrev rm_L_robotAt : Room := { frames := 8, cells := 2, slots := 12, locals := 143 }
theorem yn_L_robotAt : am_yn yL_robotAt 4 := ⟨⟨by decide +kernel, by decide +kernel⟩, by decide +kernel⟩
def g_L_robotAt (a1 : Int32) (a2 : Int32) (M : am_M) : Option (Int32 × am_M) := (am_bt (g_X9_robotAt a1 a2 M) (fun v4 M2 => (am_ci (0 : Int32) 1 (some ((0 : Int32), (am_ls M2 186 (0 : Int32).toNatClampNeg (v4.toInt64)))))) (fun k6 M2 => (if k6 = 1 then (some ((1 : Int32), M2)) else (if k6 = 2 then (some ((2 : Int32), M2)) else none))))
set_option maxHeartbeats 4000000 in
set_option maxRecDepth 100000 in
theorem c_L_robotAt (l : Launch) (hls : l.stackTraces = false) (D : va_G) (E : Nat → ClassId) (z : Nat) (a1 : Int32) (a2 : Int32) (M : am_M) (r0 : Int32) (M1 : am_M) (h : g_L_robotAt a1 a2 M = some (r0, M1)) : am_Li l yL_robotAt cL_robotAt 5 (some .int) [(0, 10, 13, 13), (0, 10, 17, 15)] rm_L_robotAt D E z [.ref (z + 0), .int a1, .int a2, .ref (z + 186)] M 2 12 r0 M1 := by
  unfold g_L_robotAt at h
  refine am_lof (own := RL) (by decide +kernel) rfl (by exact Nat.le_of_ble_eq_true rfl) ?_
  intro p e s m args below meth c F hr hNC hT
  show am_W p l e rm_L_robotAt s m args below meth c _ 5 D E z 0 0 M 0 [(0, .ref (z + 0)), (1, .int a1), (2, .int a2), (3, .ref (z + 186))] []
  refine am_aload_n F 3 dL_robotAt_0 rfl rfl ?_
  refine am_iconst F (v := (0 : Int32)) dL_robotAt_1 (by decide) ?_
  refine am_aload_n F 0 dL_robotAt_2 rfl rfl ?_
  refine am_iload_n F 1 dL_robotAt_3 rfl rfl ?_
  refine am_iload_n F 2 dL_robotAt_4 rfl rfl ?_
  obtain ⟨o3, M2, h1, h⟩ := am_btE h
  refine am_tcallVi F [.int a1, .int a2] lyk_0 (by decide) rfl cw_L_60 (c_X9_robotAt l hls D E z a1 a2 M o3 M2 h1) yn_X9_robotAt rfl ⟨Nat.le_of_ble_eq_true rfl, Nat.le_of_ble_eq_true rfl⟩ rfl rfl (Nat.le_of_ble_eq_true rfl) ⟨Nat.le_of_ble_eq_true rfl, Nat.le_of_ble_eq_true rfl⟩ dL_robotAt_5 rfl h (fun v4 h => ?_) (fun k6 h => ?_)
  · refine am_i2l F dL_robotAt_8 ?_
    obtain ⟨q5, h⟩ := am_ciE h
    refine am_last F lyk_186 q5 dL_robotAt_9 ?_
    refine am_goto F (tgt := 21) dL_robotAt_10 (by decide) ?_
    refine am_iconst F (v := (0 : Int32)) dL_robotAt_21 (by decide) ?_
    exact am_liret F hr ⟨Nat.le_of_ble_eq_true rfl, Nat.le_of_ble_eq_true rfl⟩ h dL_robotAt_22
  · skip
    by_cases c7 : k6 = 1
    · have h := (if_pos c7).symm.trans h
      subst c7
      refine am_catch F hNC hT ⟨by decide, by decide⟩ [] ⟨0, 10, 13, 13⟩ [⟨0, 10, 17, 15⟩] rfl (fun z hz => nomatch hz) (by decide) (by decide) wd_593 nd_700 (fun q8 => ?_)
      refine am_astore F [(4, .ref q8), (0, .ref (z + 0)), (1, .int a1), (2, .int a2), (3, .ref (z + 186))] dL_robotAt_13 (by decide) rfl ?_
      refine am_iconst F (v := (1 : Int32)) dL_robotAt_15 (by decide) ?_
      exact am_liret F hr ⟨Nat.le_of_ble_eq_true rfl, Nat.le_of_ble_eq_true rfl⟩ h dL_robotAt_16
    · have h := (if_neg c7).symm.trans h
      by_cases c9 : k6 = 2
      · have h := (if_pos c9).symm.trans h
        subst c9
        refine am_catch F hNC hT ⟨by decide, by decide⟩ [⟨0, 10, 13, 13⟩] ⟨0, 10, 17, 15⟩ [] rfl (by
            intro z hz
            simp only [List.mem_cons, List.not_mem_nil, or_false] at hz
            rcases hz with rfl
            · exact ⟨by decide, 1, by decide, by decide, by decide, wd_593⟩) (by decide) (by decide) wd_673 nd_713 (fun q10 => ?_)
        refine am_astore F [(4, .ref q10), (0, .ref (z + 0)), (1, .int a1), (2, .int a2), (3, .ref (z + 186))] dL_robotAt_17 (by decide) rfl ?_
        refine am_iconst F (v := (2 : Int32)) dL_robotAt_19 (by decide) ?_
        exact am_liret F hr ⟨Nat.le_of_ble_eq_true rfl, Nat.le_of_ble_eq_true rfl⟩ h dL_robotAt_20
      · have h := (if_neg c9).symm.trans h
        cases h
/-! the law's cancel(LAisleScheduler;I[J)I -/
abbrev rm_L_cancel : Room := { frames := 8, cells := 3, slots := 18, locals := 145 }
theorem yn_L_cancel : am_yn yL_cancel 3 := ⟨⟨by decide +kernel, by decide +kernel⟩, by decide +kernel⟩
def g_L_cancel (a1 : Int32) (M : am_M) : Option (Int32 × am_M) := (am_bt (g_X9_cancel a1 M) (fun v4 M2 => (am_ci (0 : Int32) 1 (some ((0 : Int32), (am_ls M2 186 (0 : Int32).toNatClampNeg (v4.toInt64)))))) (fun k6 M2 => (if k6 = 1 then (some ((1 : Int32), M2)) else (if k6 = 3 then (some ((2 : Int32), M2)) else (if k6 = 5 then (some ((3 : Int32), M2)) else none)))))
set_option maxHeartbeats 4000000 in
set_option maxRecDepth 100000 in
theorem c_L_cancel (l : Launch) (hls : l.stackTraces = false) (D : va_G) (E : Nat → ClassId) (z : Nat) (a1 : Int32) (M : am_M) (r0 : Int32) (M1 : am_M) (h : g_L_cancel a1 M = some (r0, M1)) : am_Li l yL_cancel cL_cancel 4 (some .int) [(0, 9, 12, 13), (0, 9, 15, 17), (0, 9, 18, 46)] rm_L_cancel D E z [.ref (z + 0), .int a1, .ref (z + 186)] M 3 18 r0 M1 := by
  unfold g_L_cancel at h
  refine am_lof (own := RL) (by decide +kernel) rfl (by exact Nat.le_of_ble_eq_true rfl) ?_
  intro p e s m args below meth c F hr hNC hT
  show am_W p l e rm_L_cancel s m args below meth c _ 4 D E z 0 0 M 0 [(0, .ref (z + 0)), (1, .int a1), (2, .ref (z + 186))] []
  refine am_aload_n F 2 dL_cancel_0 rfl rfl ?_
  refine am_iconst F (v := (0 : Int32)) dL_cancel_1 (by decide) ?_
  refine am_aload_n F 0 dL_cancel_2 rfl rfl ?_
  refine am_iload_n F 1 dL_cancel_3 rfl rfl ?_
  obtain ⟨o3, M2, h1, h⟩ := am_btE h
  refine am_tcallVi F [.int a1] lyk_0 (by decide) rfl cw_L_63 (c_X9_cancel l hls D E z a1 M o3 M2 h1) yn_X9_cancel rfl ⟨Nat.le_of_ble_eq_true rfl, Nat.le_of_ble_eq_true rfl⟩ rfl rfl (Nat.le_of_ble_eq_true rfl) ⟨Nat.le_of_ble_eq_true rfl, Nat.le_of_ble_eq_true rfl⟩ dL_cancel_4 rfl h (fun v4 h => ?_) (fun k6 h => ?_)
  · refine am_i2l F dL_cancel_7 ?_
    obtain ⟨q5, h⟩ := am_ciE h
    refine am_last F lyk_186 q5 dL_cancel_8 ?_
    refine am_goto F (tgt := 21) dL_cancel_9 (by decide) ?_
    refine am_iconst F (v := (0 : Int32)) dL_cancel_21 (by decide) ?_
    exact am_liret F hr ⟨Nat.le_of_ble_eq_true rfl, Nat.le_of_ble_eq_true rfl⟩ h dL_cancel_22
  · skip
    by_cases c7 : k6 = 1
    · have h := (if_pos c7).symm.trans h
      subst c7
      refine am_catch F hNC hT ⟨by decide, by decide⟩ [] ⟨0, 9, 12, 13⟩ [⟨0, 9, 15, 17⟩, ⟨0, 9, 18, 46⟩] rfl (fun z hz => nomatch hz) (by decide) (by decide) wd_593 nd_700 (fun q8 => ?_)
      refine am_astore_n F [(3, .ref q8), (0, .ref (z + 0)), (1, .int a1), (2, .ref (z + 186))] dL_cancel_12 rfl (by decide) rfl ?_
      refine am_iconst F (v := (1 : Int32)) dL_cancel_13 (by decide) ?_
      exact am_liret F hr ⟨Nat.le_of_ble_eq_true rfl, Nat.le_of_ble_eq_true rfl⟩ h dL_cancel_14
    · have h := (if_neg c7).symm.trans h
      by_cases c9 : k6 = 3
      · have h := (if_pos c9).symm.trans h
        subst c9
        refine am_catch F hNC hT ⟨by decide, by decide⟩ [⟨0, 9, 12, 13⟩] ⟨0, 9, 15, 17⟩ [⟨0, 9, 18, 46⟩] rfl (by
            intro z hz
            simp only [List.mem_cons, List.not_mem_nil, or_false] at hz
            rcases hz with rfl
            · exact ⟨by decide, 1, by decide, by decide, by decide, wd_593⟩) (by decide) (by decide) wd_674 nd_729 (fun q10 => ?_)
        refine am_astore_n F [(3, .ref q10), (0, .ref (z + 0)), (1, .int a1), (2, .ref (z + 186))] dL_cancel_15 rfl (by decide) rfl ?_
        refine am_iconst F (v := (2 : Int32)) dL_cancel_16 (by decide) ?_
        exact am_liret F hr ⟨Nat.le_of_ble_eq_true rfl, Nat.le_of_ble_eq_true rfl⟩ h dL_cancel_17
      · have h := (if_neg c9).symm.trans h
        by_cases c11 : k6 = 5
        · have h := (if_pos c11).symm.trans h
          subst c11
          refine am_catch F hNC hT ⟨by decide, by decide⟩ [⟨0, 9, 12, 13⟩, ⟨0, 9, 15, 17⟩] ⟨0, 9, 18, 46⟩ [] rfl (by
              intro z hz
              simp only [List.mem_cons, List.not_mem_nil, or_false] at hz
              rcases hz with rfl | rfl
              · exact ⟨by decide, 1, by decide, by decide, by decide, wd_593⟩
              · exact ⟨by decide, 3, by decide, by decide, by decide, wd_674⟩) (by decide) (by decide) wd_876 nd_899 (fun q12 => ?_)
          refine am_astore_n F [(3, .ref q12), (0, .ref (z + 0)), (1, .int a1), (2, .ref (z + 186))] dL_cancel_18 rfl (by decide) rfl ?_
          refine am_iconst F (v := (3 : Int32)) dL_cancel_19 (by decide) ?_
          exact am_liret F hr ⟨Nat.le_of_ble_eq_true rfl, Nat.le_of_ble_eq_true rfl⟩ h dL_cancel_20
        · have h := (if_neg c11).symm.trans h
          cases h
/-! the law's blockers(LAisleScheduler;II[J)I -/
abbrev rm_L_blockers : Room := { frames := 8, cells := 2, slots := 12, locals := 189 }
theorem yn_L_blockers : am_yn yL_blockers 4 := ⟨⟨by decide +kernel, by decide +kernel⟩, by decide +kernel⟩
def g_L_blockers (a1 : Int32) (a2 : Int32) (M : am_M) : Option (Int32 × am_M) := (am_bt (g_X9_blockers a1 a2 M) (fun v4 M2 => (am_ci (0 : Int32) 1 (some ((0 : Int32), (am_ls M2 186 (0 : Int32).toNatClampNeg (v4.toInt64)))))) (fun k6 M2 => (if k6 = 1 then (some ((1 : Int32), M2)) else none)))
set_option maxHeartbeats 4000000 in
set_option maxRecDepth 100000 in
theorem c_L_blockers (l : Launch) (hls : l.stackTraces = false) (D : va_G) (E : Nat → ClassId) (z : Nat) (a1 : Int32) (a2 : Int32) (M : am_M) (r0 : Int32) (M1 : am_M) (h : g_L_blockers a1 a2 M = some (r0, M1)) : am_Li l yL_blockers cL_blockers 5 (some .int) [(0, 10, 13, 13)] rm_L_blockers D E z [.ref (z + 0), .int a1, .int a2, .ref (z + 186)] M 2 12 r0 M1 := by
  unfold g_L_blockers at h
  refine am_lof (own := RL) (by decide +kernel) rfl (by exact Nat.le_of_ble_eq_true rfl) ?_
  intro p e s m args below meth c F hr hNC hT
  show am_W p l e rm_L_blockers s m args below meth c _ 5 D E z 0 0 M 0 [(0, .ref (z + 0)), (1, .int a1), (2, .int a2), (3, .ref (z + 186))] []
  refine am_aload_n F 3 dL_blockers_0 rfl rfl ?_
  refine am_iconst F (v := (0 : Int32)) dL_blockers_1 (by decide) ?_
  refine am_aload_n F 0 dL_blockers_2 rfl rfl ?_
  refine am_iload_n F 1 dL_blockers_3 rfl rfl ?_
  refine am_iload_n F 2 dL_blockers_4 rfl rfl ?_
  obtain ⟨o3, M2, h1, h⟩ := am_btE h
  refine am_tcallVi F [.int a1, .int a2] lyk_0 (by decide) rfl cw_L_66 (c_X9_blockers l hls D E z a1 a2 M o3 M2 h1) yn_X9_blockers rfl ⟨Nat.le_of_ble_eq_true rfl, Nat.le_of_ble_eq_true rfl⟩ rfl rfl (Nat.le_of_ble_eq_true rfl) ⟨Nat.le_of_ble_eq_true rfl, Nat.le_of_ble_eq_true rfl⟩ dL_blockers_5 rfl h (fun v4 h => ?_) (fun k6 h => ?_)
  · refine am_i2l F dL_blockers_8 ?_
    obtain ⟨q5, h⟩ := am_ciE h
    refine am_last F lyk_186 q5 dL_blockers_9 ?_
    refine am_goto F (tgt := 17) dL_blockers_10 (by decide) ?_
    refine am_iconst F (v := (0 : Int32)) dL_blockers_17 (by decide) ?_
    exact am_liret F hr ⟨Nat.le_of_ble_eq_true rfl, Nat.le_of_ble_eq_true rfl⟩ h dL_blockers_18
  · skip
    by_cases c7 : k6 = 1
    · have h := (if_pos c7).symm.trans h
      subst c7
      refine am_catch F hNC hT ⟨by decide, by decide⟩ [] ⟨0, 10, 13, 13⟩ [] rfl (fun z hz => nomatch hz) (by decide) (by decide) wd_593 nd_700 (fun q8 => ?_)
      refine am_astore F [(4, .ref q8), (0, .ref (z + 0)), (1, .int a1), (2, .int a2), (3, .ref (z + 186))] dL_blockers_13 (by decide) rfl ?_
      refine am_iconst F (v := (1 : Int32)) dL_blockers_15 (by decide) ?_
      exact am_liret F hr ⟨Nat.le_of_ble_eq_true rfl, Nat.le_of_ble_eq_true rfl⟩ h dL_blockers_16
    · have h := (if_neg c7).symm.trans h
      cases h
/-! the law's makeWay(LAisleScheduler;II[J)I -/
abbrev rm_L_makeWay : Room := { frames := 9, cells := 4, slots := 24, locals := 226 }
theorem yn_L_makeWay : am_yn yL_makeWay 4 := ⟨⟨by decide +kernel, by decide +kernel⟩, by decide +kernel⟩
def g_L_makeWay (a1 : Int32) (a2 : Int32) (M : am_M) : Option (Int32 × am_M) := (am_bt (g_X9_makeWay a1 a2 M) (fun v4 M2 => (am_ci (0 : Int32) 1 (some ((0 : Int32), (am_ls M2 186 (0 : Int32).toNatClampNeg (v4.toInt64)))))) (fun k6 M2 => (if k6 = 1 then (some ((1 : Int32), M2)) else (if k6 = 3 then (some ((2 : Int32), M2)) else (if k6 = 4 then (some ((3 : Int32), M2)) else none)))))
set_option maxHeartbeats 4000000 in
set_option maxRecDepth 100000 in
theorem c_L_makeWay (l : Launch) (hls : l.stackTraces = false) (D : va_G) (E : Nat → ClassId) (z : Nat) (a1 : Int32) (a2 : Int32) (M : am_M) (r0 : Int32) (M1 : am_M) (h : g_L_makeWay a1 a2 M = some (r0, M1)) : am_Li l yL_makeWay cL_makeWay 5 (some .int) [(0, 10, 13, 13), (0, 10, 17, 17), (0, 10, 21, 41)] rm_L_makeWay D E z [.ref (z + 0), .int a1, .int a2, .ref (z + 186)] M 4 24 r0 M1 := by
  unfold g_L_makeWay at h
  refine am_lof (own := RL) (by decide +kernel) rfl (by exact Nat.le_of_ble_eq_true rfl) ?_
  intro p e s m args below meth c F hr hNC hT
  show am_W p l e rm_L_makeWay s m args below meth c _ 5 D E z 0 0 M 0 [(0, .ref (z + 0)), (1, .int a1), (2, .int a2), (3, .ref (z + 186))] []
  refine am_aload_n F 3 dL_makeWay_0 rfl rfl ?_
  refine am_iconst F (v := (0 : Int32)) dL_makeWay_1 (by decide) ?_
  refine am_aload_n F 0 dL_makeWay_2 rfl rfl ?_
  refine am_iload_n F 1 dL_makeWay_3 rfl rfl ?_
  refine am_iload_n F 2 dL_makeWay_4 rfl rfl ?_
  obtain ⟨o3, M2, h1, h⟩ := am_btE h
  refine am_tcallVi F [.int a1, .int a2] lyk_0 (by decide) rfl cw_L_69 (c_X9_makeWay l hls D E z a1 a2 M o3 M2 h1) yn_X9_makeWay rfl ⟨Nat.le_of_ble_eq_true rfl, Nat.le_of_ble_eq_true rfl⟩ rfl rfl (Nat.le_of_ble_eq_true rfl) ⟨Nat.le_of_ble_eq_true rfl, Nat.le_of_ble_eq_true rfl⟩ dL_makeWay_5 rfl h (fun v4 h => ?_) (fun k6 h => ?_)
  · refine am_i2l F dL_makeWay_8 ?_
    obtain ⟨q5, h⟩ := am_ciE h
    refine am_last F lyk_186 q5 dL_makeWay_9 ?_
    refine am_goto F (tgt := 25) dL_makeWay_10 (by decide) ?_
    refine am_iconst F (v := (0 : Int32)) dL_makeWay_25 (by decide) ?_
    exact am_liret F hr ⟨Nat.le_of_ble_eq_true rfl, Nat.le_of_ble_eq_true rfl⟩ h dL_makeWay_26
  · skip
    by_cases c7 : k6 = 1
    · have h := (if_pos c7).symm.trans h
      subst c7
      refine am_catch F hNC hT ⟨by decide, by decide⟩ [] ⟨0, 10, 13, 13⟩ [⟨0, 10, 17, 17⟩, ⟨0, 10, 21, 41⟩] rfl (fun z hz => nomatch hz) (by decide) (by decide) wd_593 nd_700 (fun q8 => ?_)
      refine am_astore F [(4, .ref q8), (0, .ref (z + 0)), (1, .int a1), (2, .int a2), (3, .ref (z + 186))] dL_makeWay_13 (by decide) rfl ?_
      refine am_iconst F (v := (1 : Int32)) dL_makeWay_15 (by decide) ?_
      exact am_liret F hr ⟨Nat.le_of_ble_eq_true rfl, Nat.le_of_ble_eq_true rfl⟩ h dL_makeWay_16
    · have h := (if_neg c7).symm.trans h
      by_cases c9 : k6 = 3
      · have h := (if_pos c9).symm.trans h
        subst c9
        refine am_catch F hNC hT ⟨by decide, by decide⟩ [⟨0, 10, 13, 13⟩] ⟨0, 10, 17, 17⟩ [⟨0, 10, 21, 41⟩] rfl (by
            intro z hz
            simp only [List.mem_cons, List.not_mem_nil, or_false] at hz
            rcases hz with rfl
            · exact ⟨by decide, 1, by decide, by decide, by decide, wd_593⟩) (by decide) (by decide) wd_674 nd_729 (fun q10 => ?_)
        refine am_astore F [(4, .ref q10), (0, .ref (z + 0)), (1, .int a1), (2, .int a2), (3, .ref (z + 186))] dL_makeWay_17 (by decide) rfl ?_
        refine am_iconst F (v := (2 : Int32)) dL_makeWay_19 (by decide) ?_
        exact am_liret F hr ⟨Nat.le_of_ble_eq_true rfl, Nat.le_of_ble_eq_true rfl⟩ h dL_makeWay_20
      · have h := (if_neg c9).symm.trans h
        by_cases c11 : k6 = 4
        · have h := (if_pos c11).symm.trans h
          subst c11
          refine am_catch F hNC hT ⟨by decide, by decide⟩ [⟨0, 10, 13, 13⟩, ⟨0, 10, 17, 17⟩] ⟨0, 10, 21, 41⟩ [] rfl (by
              intro z hz
              simp only [List.mem_cons, List.not_mem_nil, or_false] at hz
              rcases hz with rfl | rfl
              · exact ⟨by decide, 1, by decide, by decide, by decide, wd_593⟩
              · exact ⟨by decide, 3, by decide, by decide, by decide, wd_674⟩) (by decide) (by decide) wd_847 nd_859 (fun q12 => ?_)
          refine am_astore F [(4, .ref q12), (0, .ref (z + 0)), (1, .int a1), (2, .int a2), (3, .ref (z + 186))] dL_makeWay_21 (by decide) rfl ?_
          refine am_iconst F (v := (3 : Int32)) dL_makeWay_23 (by decide) ?_
          exact am_liret F hr ⟨Nat.le_of_ble_eq_true rfl, Nat.le_of_ble_eq_true rfl⟩ h dL_makeWay_24
        · have h := (if_neg c11).symm.trans h
          cases h
/-! the law's planToCharger(LAisleScheduler;I[J)I -/
abbrev rm_L_planToCharger : Room := { frames := 9, cells := 3, slots := 18, locals := 224 }
theorem yn_L_planToCharger : am_yn yL_planToCharger 3 := ⟨⟨by decide +kernel, by decide +kernel⟩, by decide +kernel⟩
def g_L_planToCharger (a1 : Int32) (M : am_M) : Option (Int32 × am_M) := (am_bt (g_X9_planToCharger a1 M) (fun v4 M2 => (am_ci (0 : Int32) 1 (some ((0 : Int32), (am_ls M2 186 (0 : Int32).toNatClampNeg (v4.toInt64)))))) (fun k6 M2 => (if k6 = 1 then (some ((1 : Int32), M2)) else (if k6 = 3 then (some ((2 : Int32), M2)) else (if k6 = 4 then (some ((3 : Int32), M2)) else none)))))
set_option maxHeartbeats 4000000 in
set_option maxRecDepth 100000 in
theorem c_L_planToCharger (l : Launch) (hls : l.stackTraces = false) (D : va_G) (E : Nat → ClassId) (z : Nat) (a1 : Int32) (M : am_M) (r0 : Int32) (M1 : am_M) (h : g_L_planToCharger a1 M = some (r0, M1)) : am_Li l yL_planToCharger cL_planToCharger 4 (some .int) [(0, 9, 12, 13), (0, 9, 15, 17), (0, 9, 18, 41)] rm_L_planToCharger D E z [.ref (z + 0), .int a1, .ref (z + 186)] M 3 18 r0 M1 := by
  unfold g_L_planToCharger at h
  refine am_lof (own := RL) (by decide +kernel) rfl (by exact Nat.le_of_ble_eq_true rfl) ?_
  intro p e s m args below meth c F hr hNC hT
  show am_W p l e rm_L_planToCharger s m args below meth c _ 4 D E z 0 0 M 0 [(0, .ref (z + 0)), (1, .int a1), (2, .ref (z + 186))] []
  refine am_aload_n F 2 dL_planToCharger_0 rfl rfl ?_
  refine am_iconst F (v := (0 : Int32)) dL_planToCharger_1 (by decide) ?_
  refine am_aload_n F 0 dL_planToCharger_2 rfl rfl ?_
  refine am_iload_n F 1 dL_planToCharger_3 rfl rfl ?_
  obtain ⟨o3, M2, h1, h⟩ := am_btE h
  refine am_tcallVi F [.int a1] lyk_0 (by decide) rfl cw_L_72 (c_X9_planToCharger l hls D E z a1 M o3 M2 h1) yn_X9_planToCharger rfl ⟨Nat.le_of_ble_eq_true rfl, Nat.le_of_ble_eq_true rfl⟩ rfl rfl (Nat.le_of_ble_eq_true rfl) ⟨Nat.le_of_ble_eq_true rfl, Nat.le_of_ble_eq_true rfl⟩ dL_planToCharger_4 rfl h (fun v4 h => ?_) (fun k6 h => ?_)
  · refine am_i2l F dL_planToCharger_7 ?_
    obtain ⟨q5, h⟩ := am_ciE h
    refine am_last F lyk_186 q5 dL_planToCharger_8 ?_
    refine am_goto F (tgt := 21) dL_planToCharger_9 (by decide) ?_
    refine am_iconst F (v := (0 : Int32)) dL_planToCharger_21 (by decide) ?_
    exact am_liret F hr ⟨Nat.le_of_ble_eq_true rfl, Nat.le_of_ble_eq_true rfl⟩ h dL_planToCharger_22
  · skip
    by_cases c7 : k6 = 1
    · have h := (if_pos c7).symm.trans h
      subst c7
      refine am_catch F hNC hT ⟨by decide, by decide⟩ [] ⟨0, 9, 12, 13⟩ [⟨0, 9, 15, 17⟩, ⟨0, 9, 18, 41⟩] rfl (fun z hz => nomatch hz) (by decide) (by decide) wd_593 nd_700 (fun q8 => ?_)
      refine am_astore_n F [(3, .ref q8), (0, .ref (z + 0)), (1, .int a1), (2, .ref (z + 186))] dL_planToCharger_12 rfl (by decide) rfl ?_
      refine am_iconst F (v := (1 : Int32)) dL_planToCharger_13 (by decide) ?_
      exact am_liret F hr ⟨Nat.le_of_ble_eq_true rfl, Nat.le_of_ble_eq_true rfl⟩ h dL_planToCharger_14
    · have h := (if_neg c7).symm.trans h
      by_cases c9 : k6 = 3
      · have h := (if_pos c9).symm.trans h
        subst c9
        refine am_catch F hNC hT ⟨by decide, by decide⟩ [⟨0, 9, 12, 13⟩] ⟨0, 9, 15, 17⟩ [⟨0, 9, 18, 41⟩] rfl (by
            intro z hz
            simp only [List.mem_cons, List.not_mem_nil, or_false] at hz
            rcases hz with rfl
            · exact ⟨by decide, 1, by decide, by decide, by decide, wd_593⟩) (by decide) (by decide) wd_674 nd_729 (fun q10 => ?_)
        refine am_astore_n F [(3, .ref q10), (0, .ref (z + 0)), (1, .int a1), (2, .ref (z + 186))] dL_planToCharger_15 rfl (by decide) rfl ?_
        refine am_iconst F (v := (2 : Int32)) dL_planToCharger_16 (by decide) ?_
        exact am_liret F hr ⟨Nat.le_of_ble_eq_true rfl, Nat.le_of_ble_eq_true rfl⟩ h dL_planToCharger_17
      · have h := (if_neg c9).symm.trans h
        by_cases c11 : k6 = 4
        · have h := (if_pos c11).symm.trans h
          subst c11
          refine am_catch F hNC hT ⟨by decide, by decide⟩ [⟨0, 9, 12, 13⟩, ⟨0, 9, 15, 17⟩] ⟨0, 9, 18, 41⟩ [] rfl (by
              intro z hz
              simp only [List.mem_cons, List.not_mem_nil, or_false] at hz
              rcases hz with rfl | rfl
              · exact ⟨by decide, 1, by decide, by decide, by decide, wd_593⟩
              · exact ⟨by decide, 3, by decide, by decide, by decide, wd_674⟩) (by decide) (by decide) wd_847 nd_859 (fun q12 => ?_)
          refine am_astore_n F [(3, .ref q12), (0, .ref (z + 0)), (1, .int a1), (2, .ref (z + 186))] dL_planToCharger_18 rfl (by decide) rfl ?_
          refine am_iconst F (v := (3 : Int32)) dL_planToCharger_19 (by decide) ?_
          exact am_liret F hr ⟨Nat.le_of_ble_eq_true rfl, Nat.le_of_ble_eq_true rfl⟩ h dL_planToCharger_20
        · have h := (if_neg c11).symm.trans h
          cases h
/-! the law's addTask(LAisleScheduler;IIII[J)I -/
abbrev rm_L_addTask : Room := { frames := 8, cells := 3, slots := 18, locals := 144 }
theorem yn_L_addTask : am_yn yL_addTask 6 := ⟨⟨by decide +kernel, by decide +kernel⟩, by decide +kernel⟩
def g_L_addTask (a1 : Int32) (a2 : Int32) (a3 : Int32) (a4 : Int32) (M : am_M) : Option (Int32 × am_M) := (am_bt (g_X9_addTask a1 a2 a3 a4 M) (fun v4 M2 => (am_ci (0 : Int32) 1 (some ((0 : Int32), (am_ls M2 186 (0 : Int32).toNatClampNeg (v4.toInt64)))))) (fun k6 M2 => (if k6 = 1 then (some ((1 : Int32), M2)) else (if k6 = 2 then (some ((2 : Int32), M2)) else (if k6 = 3 then (some ((3 : Int32), M2)) else none)))))
set_option maxHeartbeats 4000000 in
set_option maxRecDepth 100000 in
theorem c_L_addTask (l : Launch) (hls : l.stackTraces = false) (D : va_G) (E : Nat → ClassId) (z : Nat) (a1 : Int32) (a2 : Int32) (a3 : Int32) (a4 : Int32) (M : am_M) (r0 : Int32) (M1 : am_M) (h : g_L_addTask a1 a2 a3 a4 M = some (r0, M1)) : am_Li l yL_addTask cL_addTask 7 (some .int) [(0, 14, 17, 13), (0, 14, 21, 15), (0, 14, 25, 17)] rm_L_addTask D E z [.ref (z + 0), .int a1, .int a2, .int a3, .int a4, .ref (z + 186)] M 3 18 r0 M1 := by
  unfold g_L_addTask at h
  refine am_lof (own := RL) (by decide +kernel) rfl (by exact Nat.le_of_ble_eq_true rfl) ?_
  intro p e s m args below meth c F hr hNC hT
  show am_W p l e rm_L_addTask s m args below meth c _ 7 D E z 0 0 M 0 [(0, .ref (z + 0)), (1, .int a1), (2, .int a2), (3, .int a3), (4, .int a4), (5, .ref (z + 186))] []
  refine am_aload F 5 dL_addTask_0 rfl ?_
  refine am_iconst F (v := (0 : Int32)) dL_addTask_2 (by decide) ?_
  refine am_aload_n F 0 dL_addTask_3 rfl rfl ?_
  refine am_iload_n F 1 dL_addTask_4 rfl rfl ?_
  refine am_iload_n F 2 dL_addTask_5 rfl rfl ?_
  refine am_iload_n F 3 dL_addTask_6 rfl rfl ?_
  refine am_iload F 4 dL_addTask_7 rfl ?_
  obtain ⟨o3, M2, h1, h⟩ := am_btE h
  refine am_tcallVi F [.int a1, .int a2, .int a3, .int a4] lyk_0 (by decide) rfl cw_L_75 (c_X9_addTask l hls D E z a1 a2 a3 a4 M o3 M2 h1) yn_X9_addTask rfl ⟨Nat.le_of_ble_eq_true rfl, Nat.le_of_ble_eq_true rfl⟩ rfl rfl (Nat.le_of_ble_eq_true rfl) ⟨Nat.le_of_ble_eq_true rfl, Nat.le_of_ble_eq_true rfl⟩ dL_addTask_9 rfl h (fun v4 h => ?_) (fun k6 h => ?_)
  · refine am_i2l F dL_addTask_12 ?_
    obtain ⟨q5, h⟩ := am_ciE h
    refine am_last F lyk_186 q5 dL_addTask_13 ?_
    refine am_goto F (tgt := 29) dL_addTask_14 (by decide) ?_
    refine am_iconst F (v := (0 : Int32)) dL_addTask_29 (by decide) ?_
    exact am_liret F hr ⟨Nat.le_of_ble_eq_true rfl, Nat.le_of_ble_eq_true rfl⟩ h dL_addTask_30
  · skip
    by_cases c7 : k6 = 1
    · have h := (if_pos c7).symm.trans h
      subst c7
      refine am_catch F hNC hT ⟨by decide, by decide⟩ [] ⟨0, 14, 17, 13⟩ [⟨0, 14, 21, 15⟩, ⟨0, 14, 25, 17⟩] rfl (fun z hz => nomatch hz) (by decide) (by decide) wd_593 nd_700 (fun q8 => ?_)
      refine am_astore F [(6, .ref q8), (0, .ref (z + 0)), (1, .int a1), (2, .int a2), (3, .int a3), (4, .int a4), (5, .ref (z + 186))] dL_addTask_17 (by decide) rfl ?_
      refine am_iconst F (v := (1 : Int32)) dL_addTask_19 (by decide) ?_
      exact am_liret F hr ⟨Nat.le_of_ble_eq_true rfl, Nat.le_of_ble_eq_true rfl⟩ h dL_addTask_20
    · have h := (if_neg c7).symm.trans h
      by_cases c9 : k6 = 2
      · have h := (if_pos c9).symm.trans h
        subst c9
        refine am_catch F hNC hT ⟨by decide, by decide⟩ [⟨0, 14, 17, 13⟩] ⟨0, 14, 21, 15⟩ [⟨0, 14, 25, 17⟩] rfl (by
            intro z hz
            simp only [List.mem_cons, List.not_mem_nil, or_false] at hz
            rcases hz with rfl
            · exact ⟨by decide, 1, by decide, by decide, by decide, wd_593⟩) (by decide) (by decide) wd_673 nd_713 (fun q10 => ?_)
        refine am_astore F [(6, .ref q10), (0, .ref (z + 0)), (1, .int a1), (2, .int a2), (3, .int a3), (4, .int a4), (5, .ref (z + 186))] dL_addTask_21 (by decide) rfl ?_
        refine am_iconst F (v := (2 : Int32)) dL_addTask_23 (by decide) ?_
        exact am_liret F hr ⟨Nat.le_of_ble_eq_true rfl, Nat.le_of_ble_eq_true rfl⟩ h dL_addTask_24
      · have h := (if_neg c9).symm.trans h
        by_cases c11 : k6 = 3
        · have h := (if_pos c11).symm.trans h
          subst c11
          refine am_catch F hNC hT ⟨by decide, by decide⟩ [⟨0, 14, 17, 13⟩, ⟨0, 14, 21, 15⟩] ⟨0, 14, 25, 17⟩ [] rfl (by
              intro z hz
              simp only [List.mem_cons, List.not_mem_nil, or_false] at hz
              rcases hz with rfl | rfl
              · exact ⟨by decide, 1, by decide, by decide, by decide, wd_593⟩
              · exact ⟨by decide, 2, by decide, by decide, by decide, wd_673⟩) (by decide) (by decide) wd_674 nd_729 (fun q12 => ?_)
          refine am_astore F [(6, .ref q12), (0, .ref (z + 0)), (1, .int a1), (2, .int a2), (3, .int a3), (4, .int a4), (5, .ref (z + 186))] dL_addTask_25 (by decide) rfl ?_
          refine am_iconst F (v := (3 : Int32)) dL_addTask_27 (by decide) ?_
          exact am_liret F hr ⟨Nat.le_of_ble_eq_true rfl, Nat.le_of_ble_eq_true rfl⟩ h dL_addTask_28
        · have h := (if_neg c11).symm.trans h
          cases h
/-! the law's serve(LAisleScheduler;II[J)I -/
abbrev rm_L_serve : Room := { frames := 8, cells := 3, slots := 18, locals := 201 }
theorem yn_L_serve : am_yn yL_serve 4 := ⟨⟨by decide +kernel, by decide +kernel⟩, by decide +kernel⟩
def g_L_serve (a1 : Int32) (a2 : Int32) (M : am_M) : Option (Int32 × am_M) := (am_bt (g_X9_serve a1 a2 M) (fun v4 M2 => (am_ci (0 : Int32) 1 (some ((0 : Int32), (am_ls M2 186 (0 : Int32).toNatClampNeg (v4.toInt64)))))) (fun k6 M2 => (if k6 = 1 then (some ((1 : Int32), M2)) else (if k6 = 3 then (some ((2 : Int32), M2)) else none))))
set_option maxHeartbeats 4000000 in
set_option maxRecDepth 100000 in
theorem c_L_serve (l : Launch) (hls : l.stackTraces = false) (D : va_G) (E : Nat → ClassId) (z : Nat) (a1 : Int32) (a2 : Int32) (M : am_M) (r0 : Int32) (M1 : am_M) (h : g_L_serve a1 a2 M = some (r0, M1)) : am_Li l yL_serve cL_serve 5 (some .int) [(0, 10, 13, 13), (0, 10, 17, 17)] rm_L_serve D E z [.ref (z + 0), .int a1, .int a2, .ref (z + 186)] M 3 18 r0 M1 := by
  unfold g_L_serve at h
  refine am_lof (own := RL) (by decide +kernel) rfl (by exact Nat.le_of_ble_eq_true rfl) ?_
  intro p e s m args below meth c F hr hNC hT
  show am_W p l e rm_L_serve s m args below meth c _ 5 D E z 0 0 M 0 [(0, .ref (z + 0)), (1, .int a1), (2, .int a2), (3, .ref (z + 186))] []
  refine am_aload_n F 3 dL_serve_0 rfl rfl ?_
  refine am_iconst F (v := (0 : Int32)) dL_serve_1 (by decide) ?_
  refine am_aload_n F 0 dL_serve_2 rfl rfl ?_
  refine am_iload_n F 1 dL_serve_3 rfl rfl ?_
  refine am_iload_n F 2 dL_serve_4 rfl rfl ?_
  obtain ⟨o3, M2, h1, h⟩ := am_btE h
  refine am_tcallVi F [.int a1, .int a2] lyk_0 (by decide) rfl cw_L_79 (c_X9_serve l hls D E z a1 a2 M o3 M2 h1) yn_X9_serve rfl ⟨Nat.le_of_ble_eq_true rfl, Nat.le_of_ble_eq_true rfl⟩ rfl rfl (Nat.le_of_ble_eq_true rfl) ⟨Nat.le_of_ble_eq_true rfl, Nat.le_of_ble_eq_true rfl⟩ dL_serve_5 rfl h (fun v4 h => ?_) (fun k6 h => ?_)
  · refine am_i2l F dL_serve_8 ?_
    obtain ⟨q5, h⟩ := am_ciE h
    refine am_last F lyk_186 q5 dL_serve_9 ?_
    refine am_goto F (tgt := 21) dL_serve_10 (by decide) ?_
    refine am_iconst F (v := (0 : Int32)) dL_serve_21 (by decide) ?_
    exact am_liret F hr ⟨Nat.le_of_ble_eq_true rfl, Nat.le_of_ble_eq_true rfl⟩ h dL_serve_22
  · skip
    by_cases c7 : k6 = 1
    · have h := (if_pos c7).symm.trans h
      subst c7
      refine am_catch F hNC hT ⟨by decide, by decide⟩ [] ⟨0, 10, 13, 13⟩ [⟨0, 10, 17, 17⟩] rfl (fun z hz => nomatch hz) (by decide) (by decide) wd_593 nd_700 (fun q8 => ?_)
      refine am_astore F [(4, .ref q8), (0, .ref (z + 0)), (1, .int a1), (2, .int a2), (3, .ref (z + 186))] dL_serve_13 (by decide) rfl ?_
      refine am_iconst F (v := (1 : Int32)) dL_serve_15 (by decide) ?_
      exact am_liret F hr ⟨Nat.le_of_ble_eq_true rfl, Nat.le_of_ble_eq_true rfl⟩ h dL_serve_16
    · have h := (if_neg c7).symm.trans h
      by_cases c9 : k6 = 3
      · have h := (if_pos c9).symm.trans h
        subst c9
        refine am_catch F hNC hT ⟨by decide, by decide⟩ [⟨0, 10, 13, 13⟩] ⟨0, 10, 17, 17⟩ [] rfl (by
            intro z hz
            simp only [List.mem_cons, List.not_mem_nil, or_false] at hz
            rcases hz with rfl
            · exact ⟨by decide, 1, by decide, by decide, by decide, wd_593⟩) (by decide) (by decide) wd_674 nd_729 (fun q10 => ?_)
        refine am_astore F [(4, .ref q10), (0, .ref (z + 0)), (1, .int a1), (2, .int a2), (3, .ref (z + 186))] dL_serve_17 (by decide) rfl ?_
        refine am_iconst F (v := (2 : Int32)) dL_serve_19 (by decide) ?_
        exact am_liret F hr ⟨Nat.le_of_ble_eq_true rfl, Nat.le_of_ble_eq_true rfl⟩ h dL_serve_20
      · have h := (if_neg c9).symm.trans h
        cases h
/-! the law's bestRobot(LAisleScheduler;I[J)I -/
abbrev rm_L_bestRobot : Room := { frames := 8, cells := 3, slots := 18, locals := 204 }
theorem yn_L_bestRobot : am_yn yL_bestRobot 3 := ⟨⟨by decide +kernel, by decide +kernel⟩, by decide +kernel⟩
def g_L_bestRobot (a1 : Int32) (M : am_M) : Option (Int32 × am_M) := (am_bt (g_X9_bestRobot a1 M) (fun v4 M2 => (am_ci (0 : Int32) 1 (some ((0 : Int32), (am_ls M2 186 (0 : Int32).toNatClampNeg (v4.toInt64)))))) (fun k6 M2 => (if k6 = 1 then (some ((1 : Int32), M2)) else (if k6 = 3 then (some ((2 : Int32), M2)) else (if k6 = 4 then (some ((3 : Int32), M2)) else none)))))
set_option maxHeartbeats 4000000 in
set_option maxRecDepth 100000 in
theorem c_L_bestRobot (l : Launch) (hls : l.stackTraces = false) (D : va_G) (E : Nat → ClassId) (z : Nat) (a1 : Int32) (M : am_M) (r0 : Int32) (M1 : am_M) (h : g_L_bestRobot a1 M = some (r0, M1)) : am_Li l yL_bestRobot cL_bestRobot 4 (some .int) [(0, 9, 12, 13), (0, 9, 15, 17), (0, 9, 18, 41)] rm_L_bestRobot D E z [.ref (z + 0), .int a1, .ref (z + 186)] M 3 18 r0 M1 := by
  unfold g_L_bestRobot at h
  refine am_lof (own := RL) (by decide +kernel) rfl (by exact Nat.le_of_ble_eq_true rfl) ?_
  intro p e s m args below meth c F hr hNC hT
  show am_W p l e rm_L_bestRobot s m args below meth c _ 4 D E z 0 0 M 0 [(0, .ref (z + 0)), (1, .int a1), (2, .ref (z + 186))] []
  refine am_aload_n F 2 dL_bestRobot_0 rfl rfl ?_
  refine am_iconst F (v := (0 : Int32)) dL_bestRobot_1 (by decide) ?_
  refine am_aload_n F 0 dL_bestRobot_2 rfl rfl ?_
  refine am_iload_n F 1 dL_bestRobot_3 rfl rfl ?_
  obtain ⟨o3, M2, h1, h⟩ := am_btE h
  refine am_tcallVi F [.int a1] lyk_0 (by decide) rfl cw_L_82 (c_X9_bestRobot l hls D E z a1 M o3 M2 h1) yn_X9_bestRobot rfl ⟨Nat.le_of_ble_eq_true rfl, Nat.le_of_ble_eq_true rfl⟩ rfl rfl (Nat.le_of_ble_eq_true rfl) ⟨Nat.le_of_ble_eq_true rfl, Nat.le_of_ble_eq_true rfl⟩ dL_bestRobot_4 rfl h (fun v4 h => ?_) (fun k6 h => ?_)
  · refine am_i2l F dL_bestRobot_7 ?_
    obtain ⟨q5, h⟩ := am_ciE h
    refine am_last F lyk_186 q5 dL_bestRobot_8 ?_
    refine am_goto F (tgt := 21) dL_bestRobot_9 (by decide) ?_
    refine am_iconst F (v := (0 : Int32)) dL_bestRobot_21 (by decide) ?_
    exact am_liret F hr ⟨Nat.le_of_ble_eq_true rfl, Nat.le_of_ble_eq_true rfl⟩ h dL_bestRobot_22
  · skip
    by_cases c7 : k6 = 1
    · have h := (if_pos c7).symm.trans h
      subst c7
      refine am_catch F hNC hT ⟨by decide, by decide⟩ [] ⟨0, 9, 12, 13⟩ [⟨0, 9, 15, 17⟩, ⟨0, 9, 18, 41⟩] rfl (fun z hz => nomatch hz) (by decide) (by decide) wd_593 nd_700 (fun q8 => ?_)
      refine am_astore_n F [(3, .ref q8), (0, .ref (z + 0)), (1, .int a1), (2, .ref (z + 186))] dL_bestRobot_12 rfl (by decide) rfl ?_
      refine am_iconst F (v := (1 : Int32)) dL_bestRobot_13 (by decide) ?_
      exact am_liret F hr ⟨Nat.le_of_ble_eq_true rfl, Nat.le_of_ble_eq_true rfl⟩ h dL_bestRobot_14
    · have h := (if_neg c7).symm.trans h
      by_cases c9 : k6 = 3
      · have h := (if_pos c9).symm.trans h
        subst c9
        refine am_catch F hNC hT ⟨by decide, by decide⟩ [⟨0, 9, 12, 13⟩] ⟨0, 9, 15, 17⟩ [⟨0, 9, 18, 41⟩] rfl (by
            intro z hz
            simp only [List.mem_cons, List.not_mem_nil, or_false] at hz
            rcases hz with rfl
            · exact ⟨by decide, 1, by decide, by decide, by decide, wd_593⟩) (by decide) (by decide) wd_674 nd_729 (fun q10 => ?_)
        refine am_astore_n F [(3, .ref q10), (0, .ref (z + 0)), (1, .int a1), (2, .ref (z + 186))] dL_bestRobot_15 rfl (by decide) rfl ?_
        refine am_iconst F (v := (2 : Int32)) dL_bestRobot_16 (by decide) ?_
        exact am_liret F hr ⟨Nat.le_of_ble_eq_true rfl, Nat.le_of_ble_eq_true rfl⟩ h dL_bestRobot_17
      · have h := (if_neg c9).symm.trans h
        by_cases c11 : k6 = 4
        · have h := (if_pos c11).symm.trans h
          subst c11
          refine am_catch F hNC hT ⟨by decide, by decide⟩ [⟨0, 9, 12, 13⟩, ⟨0, 9, 15, 17⟩] ⟨0, 9, 18, 41⟩ [] rfl (by
              intro z hz
              simp only [List.mem_cons, List.not_mem_nil, or_false] at hz
              rcases hz with rfl | rfl
              · exact ⟨by decide, 1, by decide, by decide, by decide, wd_593⟩
              · exact ⟨by decide, 3, by decide, by decide, by decide, wd_674⟩) (by decide) (by decide) wd_847 nd_859 (fun q12 => ?_)
          refine am_astore_n F [(3, .ref q12), (0, .ref (z + 0)), (1, .int a1), (2, .ref (z + 186))] dL_bestRobot_18 rfl (by decide) rfl ?_
          refine am_iconst F (v := (3 : Int32)) dL_bestRobot_19 (by decide) ?_
          exact am_liret F hr ⟨Nat.le_of_ble_eq_true rfl, Nat.le_of_ble_eq_true rfl⟩ h dL_bestRobot_20
        · have h := (if_neg c11).symm.trans h
          cases h
/-! the law's task(LAisleScheduler;II[J)I -/
abbrev rm_L_task : Room := { frames := 8, cells := 2, slots := 12, locals := 144 }
theorem yn_L_task : am_yn yL_task 4 := ⟨⟨by decide +kernel, by decide +kernel⟩, by decide +kernel⟩
def g_L_task (a1 : Int32) (a2 : Int32) (M : am_M) : Option (Int32 × am_M) := (am_bt (g_X9_task a1 a2 M) (fun v4 M2 => (am_ci (0 : Int32) 1 (some ((0 : Int32), (am_ls M2 186 (0 : Int32).toNatClampNeg (v4.toInt64)))))) (fun k6 M2 => (if k6 = 1 then (some ((1 : Int32), M2)) else (if k6 = 2 then (some ((2 : Int32), M2)) else none))))
set_option maxHeartbeats 4000000 in
set_option maxRecDepth 100000 in
theorem c_L_task (l : Launch) (hls : l.stackTraces = false) (D : va_G) (E : Nat → ClassId) (z : Nat) (a1 : Int32) (a2 : Int32) (M : am_M) (r0 : Int32) (M1 : am_M) (h : g_L_task a1 a2 M = some (r0, M1)) : am_Li l yL_task cL_task 5 (some .int) [(0, 10, 13, 13), (0, 10, 17, 15)] rm_L_task D E z [.ref (z + 0), .int a1, .int a2, .ref (z + 186)] M 2 12 r0 M1 := by
  unfold g_L_task at h
  refine am_lof (own := RL) (by decide +kernel) rfl (by exact Nat.le_of_ble_eq_true rfl) ?_
  intro p e s m args below meth c F hr hNC hT
  show am_W p l e rm_L_task s m args below meth c _ 5 D E z 0 0 M 0 [(0, .ref (z + 0)), (1, .int a1), (2, .int a2), (3, .ref (z + 186))] []
  refine am_aload_n F 3 dL_task_0 rfl rfl ?_
  refine am_iconst F (v := (0 : Int32)) dL_task_1 (by decide) ?_
  refine am_aload_n F 0 dL_task_2 rfl rfl ?_
  refine am_iload_n F 1 dL_task_3 rfl rfl ?_
  refine am_iload_n F 2 dL_task_4 rfl rfl ?_
  obtain ⟨o3, M2, h1, h⟩ := am_btE h
  refine am_tcallVi F [.int a1, .int a2] lyk_0 (by decide) rfl cw_L_85 (c_X9_task l hls D E z a1 a2 M o3 M2 h1) yn_X9_task rfl ⟨Nat.le_of_ble_eq_true rfl, Nat.le_of_ble_eq_true rfl⟩ rfl rfl (Nat.le_of_ble_eq_true rfl) ⟨Nat.le_of_ble_eq_true rfl, Nat.le_of_ble_eq_true rfl⟩ dL_task_5 rfl h (fun v4 h => ?_) (fun k6 h => ?_)
  · refine am_i2l F dL_task_8 ?_
    obtain ⟨q5, h⟩ := am_ciE h
    refine am_last F lyk_186 q5 dL_task_9 ?_
    refine am_goto F (tgt := 21) dL_task_10 (by decide) ?_
    refine am_iconst F (v := (0 : Int32)) dL_task_21 (by decide) ?_
    exact am_liret F hr ⟨Nat.le_of_ble_eq_true rfl, Nat.le_of_ble_eq_true rfl⟩ h dL_task_22
  · skip
    by_cases c7 : k6 = 1
    · have h := (if_pos c7).symm.trans h
      subst c7
      refine am_catch F hNC hT ⟨by decide, by decide⟩ [] ⟨0, 10, 13, 13⟩ [⟨0, 10, 17, 15⟩] rfl (fun z hz => nomatch hz) (by decide) (by decide) wd_593 nd_700 (fun q8 => ?_)
      refine am_astore F [(4, .ref q8), (0, .ref (z + 0)), (1, .int a1), (2, .int a2), (3, .ref (z + 186))] dL_task_13 (by decide) rfl ?_
      refine am_iconst F (v := (1 : Int32)) dL_task_15 (by decide) ?_
      exact am_liret F hr ⟨Nat.le_of_ble_eq_true rfl, Nat.le_of_ble_eq_true rfl⟩ h dL_task_16
    · have h := (if_neg c7).symm.trans h
      by_cases c9 : k6 = 2
      · have h := (if_pos c9).symm.trans h
        subst c9
        refine am_catch F hNC hT ⟨by decide, by decide⟩ [⟨0, 10, 13, 13⟩] ⟨0, 10, 17, 15⟩ [] rfl (by
            intro z hz
            simp only [List.mem_cons, List.not_mem_nil, or_false] at hz
            rcases hz with rfl
            · exact ⟨by decide, 1, by decide, by decide, by decide, wd_593⟩) (by decide) (by decide) wd_673 nd_713 (fun q10 => ?_)
        refine am_astore F [(4, .ref q10), (0, .ref (z + 0)), (1, .int a1), (2, .int a2), (3, .ref (z + 186))] dL_task_17 (by decide) rfl ?_
        refine am_iconst F (v := (2 : Int32)) dL_task_19 (by decide) ?_
        exact am_liret F hr ⟨Nat.le_of_ble_eq_true rfl, Nat.le_of_ble_eq_true rfl⟩ h dL_task_20
      · have h := (if_neg c9).symm.trans h
        cases h
/-! the law's tasksIn(LAisleScheduler;I[J)I -/
abbrev rm_L_tasksIn : Room := { frames := 7, cells := 1, slots := 6, locals := 123 }
theorem yn_L_tasksIn : am_yn yL_tasksIn 3 := ⟨⟨by decide +kernel, by decide +kernel⟩, by decide +kernel⟩
def g_L_tasksIn (a1 : Int32) (M : am_M) : Option (Int32 × am_M) := (am_bt (g_X9_tasksIn a1 M) (fun v4 M2 => (am_ci (0 : Int32) 1 (some ((0 : Int32), (am_ls M2 186 (0 : Int32).toNatClampNeg (v4.toInt64)))))) (fun k6 M2 => (if k6 = 2 then (some ((1 : Int32), M2)) else none)))
set_option maxHeartbeats 4000000 in
set_option maxRecDepth 100000 in
theorem c_L_tasksIn (l : Launch) (hls : l.stackTraces = false) (D : va_G) (E : Nat → ClassId) (z : Nat) (a1 : Int32) (M : am_M) (r0 : Int32) (M1 : am_M) (h : g_L_tasksIn a1 M = some (r0, M1)) : am_Li l yL_tasksIn cL_tasksIn 4 (some .int) [(0, 9, 12, 15)] rm_L_tasksIn D E z [.ref (z + 0), .int a1, .ref (z + 186)] M 1 6 r0 M1 := by
  unfold g_L_tasksIn at h
  refine am_lof (own := RL) (by decide +kernel) rfl (by exact Nat.le_of_ble_eq_true rfl) ?_
  intro p e s m args below meth c F hr hNC hT
  show am_W p l e rm_L_tasksIn s m args below meth c _ 4 D E z 0 0 M 0 [(0, .ref (z + 0)), (1, .int a1), (2, .ref (z + 186))] []
  refine am_aload_n F 2 dL_tasksIn_0 rfl rfl ?_
  refine am_iconst F (v := (0 : Int32)) dL_tasksIn_1 (by decide) ?_
  refine am_aload_n F 0 dL_tasksIn_2 rfl rfl ?_
  refine am_iload_n F 1 dL_tasksIn_3 rfl rfl ?_
  obtain ⟨o3, M2, h1, h⟩ := am_btE h
  refine am_tcallVi F [.int a1] lyk_0 (by decide) rfl cw_L_88 (c_X9_tasksIn l hls D E z a1 M o3 M2 h1) yn_X9_tasksIn rfl ⟨Nat.le_of_ble_eq_true rfl, Nat.le_of_ble_eq_true rfl⟩ rfl rfl (Nat.le_of_ble_eq_true rfl) ⟨Nat.le_of_ble_eq_true rfl, Nat.le_of_ble_eq_true rfl⟩ dL_tasksIn_4 rfl h (fun v4 h => ?_) (fun k6 h => ?_)
  · refine am_i2l F dL_tasksIn_7 ?_
    obtain ⟨q5, h⟩ := am_ciE h
    refine am_last F lyk_186 q5 dL_tasksIn_8 ?_
    refine am_goto F (tgt := 15) dL_tasksIn_9 (by decide) ?_
    refine am_iconst F (v := (0 : Int32)) dL_tasksIn_15 (by decide) ?_
    exact am_liret F hr ⟨Nat.le_of_ble_eq_true rfl, Nat.le_of_ble_eq_true rfl⟩ h dL_tasksIn_16
  · skip
    by_cases c7 : k6 = 2
    · have h := (if_pos c7).symm.trans h
      subst c7
      refine am_catch F hNC hT ⟨by decide, by decide⟩ [] ⟨0, 9, 12, 15⟩ [] rfl (fun z hz => nomatch hz) (by decide) (by decide) wd_673 nd_713 (fun q8 => ?_)
      refine am_astore_n F [(3, .ref q8), (0, .ref (z + 0)), (1, .int a1), (2, .ref (z + 186))] dL_tasksIn_12 rfl (by decide) rfl ?_
      refine am_iconst F (v := (1 : Int32)) dL_tasksIn_13 (by decide) ?_
      exact am_liret F hr ⟨Nat.le_of_ble_eq_true rfl, Nat.le_of_ble_eq_true rfl⟩ h dL_tasksIn_14
    · have h := (if_neg c7).symm.trans h
      cases h
/-! the law's advance(LAisleScheduler;I[J)I -/
abbrev rm_L_advance : Room := { frames := 8, cells := 2, slots := 12, locals := 160 }
theorem yn_L_advance : am_yn yL_advance 3 := ⟨⟨by decide +kernel, by decide +kernel⟩, by decide +kernel⟩
def g_L_advance (a1 : Int32) (M : am_M) : Option (Int32 × am_M) := (am_bt (g_X9_advance a1 M) (fun v4 M2 => (am_ci (0 : Int32) 1 (some ((0 : Int32), (am_ls M2 186 (0 : Int32).toNatClampNeg (v4.toInt64)))))) (fun k6 M2 => (if k6 = 2 then (some ((1 : Int32), M2)) else (if k6 = 3 then (some ((2 : Int32), M2)) else none))))
set_option maxHeartbeats 4000000 in
set_option maxRecDepth 100000 in
theorem c_L_advance (l : Launch) (hls : l.stackTraces = false) (D : va_G) (E : Nat → ClassId) (z : Nat) (a1 : Int32) (M : am_M) (r0 : Int32) (M1 : am_M) (h : g_L_advance a1 M = some (r0, M1)) : am_Li l yL_advance cL_advance 4 (some .int) [(0, 9, 12, 15), (0, 9, 15, 17)] rm_L_advance D E z [.ref (z + 0), .int a1, .ref (z + 186)] M 2 12 r0 M1 := by
  unfold g_L_advance at h
  refine am_lof (own := RL) (by decide +kernel) rfl (by exact Nat.le_of_ble_eq_true rfl) ?_
  intro p e s m args below meth c F hr hNC hT
  show am_W p l e rm_L_advance s m args below meth c _ 4 D E z 0 0 M 0 [(0, .ref (z + 0)), (1, .int a1), (2, .ref (z + 186))] []
  refine am_aload_n F 2 dL_advance_0 rfl rfl ?_
  refine am_iconst F (v := (0 : Int32)) dL_advance_1 (by decide) ?_
  refine am_aload_n F 0 dL_advance_2 rfl rfl ?_
  refine am_iload_n F 1 dL_advance_3 rfl rfl ?_
  obtain ⟨o3, M2, h1, h⟩ := am_btE h
  refine am_tcallVi F [.int a1] lyk_0 (by decide) rfl cw_L_91 (c_X9_advance l hls D E z a1 M o3 M2 h1) yn_X9_advance rfl ⟨Nat.le_of_ble_eq_true rfl, Nat.le_of_ble_eq_true rfl⟩ rfl rfl (Nat.le_of_ble_eq_true rfl) ⟨Nat.le_of_ble_eq_true rfl, Nat.le_of_ble_eq_true rfl⟩ dL_advance_4 rfl h (fun v4 h => ?_) (fun k6 h => ?_)
  · refine am_i2l F dL_advance_7 ?_
    obtain ⟨q5, h⟩ := am_ciE h
    refine am_last F lyk_186 q5 dL_advance_8 ?_
    refine am_goto F (tgt := 18) dL_advance_9 (by decide) ?_
    refine am_iconst F (v := (0 : Int32)) dL_advance_18 (by decide) ?_
    exact am_liret F hr ⟨Nat.le_of_ble_eq_true rfl, Nat.le_of_ble_eq_true rfl⟩ h dL_advance_19
  · skip
    by_cases c7 : k6 = 2
    · have h := (if_pos c7).symm.trans h
      subst c7
      refine am_catch F hNC hT ⟨by decide, by decide⟩ [] ⟨0, 9, 12, 15⟩ [⟨0, 9, 15, 17⟩] rfl (fun z hz => nomatch hz) (by decide) (by decide) wd_673 nd_713 (fun q8 => ?_)
      refine am_astore_n F [(3, .ref q8), (0, .ref (z + 0)), (1, .int a1), (2, .ref (z + 186))] dL_advance_12 rfl (by decide) rfl ?_
      refine am_iconst F (v := (1 : Int32)) dL_advance_13 (by decide) ?_
      exact am_liret F hr ⟨Nat.le_of_ble_eq_true rfl, Nat.le_of_ble_eq_true rfl⟩ h dL_advance_14
    · have h := (if_neg c7).symm.trans h
      by_cases c9 : k6 = 3
      · have h := (if_pos c9).symm.trans h
        subst c9
        refine am_catch F hNC hT ⟨by decide, by decide⟩ [⟨0, 9, 12, 15⟩] ⟨0, 9, 15, 17⟩ [] rfl (by
            intro z hz
            simp only [List.mem_cons, List.not_mem_nil, or_false] at hz
            rcases hz with rfl
            · exact ⟨by decide, 2, by decide, by decide, by decide, wd_673⟩) (by decide) (by decide) wd_674 nd_729 (fun q10 => ?_)
        refine am_astore_n F [(3, .ref q10), (0, .ref (z + 0)), (1, .int a1), (2, .ref (z + 186))] dL_advance_15 rfl (by decide) rfl ?_
        refine am_iconst F (v := (2 : Int32)) dL_advance_16 (by decide) ?_
        exact am_liret F hr ⟨Nat.le_of_ble_eq_true rfl, Nat.le_of_ble_eq_true rfl⟩ h dL_advance_17
      · have h := (if_neg c9).symm.trans h
        cases h
/-! the law's statistic(LAisleScheduler;II[J)I -/
abbrev rm_L_statistic : Room := { frames := 8, cells := 2, slots := 12, locals := 143 }
theorem yn_L_statistic : am_yn yL_statistic 4 := ⟨⟨by decide +kernel, by decide +kernel⟩, by decide +kernel⟩
def g_L_statistic (a1 : Int32) (a2 : Int32) (M : am_M) : Option (Int32 × am_M) := (am_bt (g_X9_statistic a1 a2 M) (fun v4 M2 => (am_ci (0 : Int32) 1 (some ((0 : Int32), (am_ls M2 186 (0 : Int32).toNatClampNeg (v4.toInt64)))))) (fun k6 M2 => (if k6 = 1 then (some ((1 : Int32), M2)) else (if k6 = 2 then (some ((2 : Int32), M2)) else none))))
set_option maxHeartbeats 4000000 in
set_option maxRecDepth 100000 in
theorem c_L_statistic (l : Launch) (hls : l.stackTraces = false) (D : va_G) (E : Nat → ClassId) (z : Nat) (a1 : Int32) (a2 : Int32) (M : am_M) (r0 : Int32) (M1 : am_M) (h : g_L_statistic a1 a2 M = some (r0, M1)) : am_Li l yL_statistic cL_statistic 5 (some .int) [(0, 10, 13, 13), (0, 10, 17, 15)] rm_L_statistic D E z [.ref (z + 0), .int a1, .int a2, .ref (z + 186)] M 2 12 r0 M1 := by
  unfold g_L_statistic at h
  refine am_lof (own := RL) (by decide +kernel) rfl (by exact Nat.le_of_ble_eq_true rfl) ?_
  intro p e s m args below meth c F hr hNC hT
  show am_W p l e rm_L_statistic s m args below meth c _ 5 D E z 0 0 M 0 [(0, .ref (z + 0)), (1, .int a1), (2, .int a2), (3, .ref (z + 186))] []
  refine am_aload_n F 3 dL_statistic_0 rfl rfl ?_
  refine am_iconst F (v := (0 : Int32)) dL_statistic_1 (by decide) ?_
  refine am_aload_n F 0 dL_statistic_2 rfl rfl ?_
  refine am_iload_n F 1 dL_statistic_3 rfl rfl ?_
  refine am_iload_n F 2 dL_statistic_4 rfl rfl ?_
  obtain ⟨o3, M2, h1, h⟩ := am_btE h
  refine am_tcallVi F [.int a1, .int a2] lyk_0 (by decide) rfl cw_L_94 (c_X9_statistic l hls D E z a1 a2 M o3 M2 h1) yn_X9_statistic rfl ⟨Nat.le_of_ble_eq_true rfl, Nat.le_of_ble_eq_true rfl⟩ rfl rfl (Nat.le_of_ble_eq_true rfl) ⟨Nat.le_of_ble_eq_true rfl, Nat.le_of_ble_eq_true rfl⟩ dL_statistic_5 rfl h (fun v4 h => ?_) (fun k6 h => ?_)
  · refine am_i2l F dL_statistic_8 ?_
    obtain ⟨q5, h⟩ := am_ciE h
    refine am_last F lyk_186 q5 dL_statistic_9 ?_
    refine am_goto F (tgt := 21) dL_statistic_10 (by decide) ?_
    refine am_iconst F (v := (0 : Int32)) dL_statistic_21 (by decide) ?_
    exact am_liret F hr ⟨Nat.le_of_ble_eq_true rfl, Nat.le_of_ble_eq_true rfl⟩ h dL_statistic_22
  · skip
    by_cases c7 : k6 = 1
    · have h := (if_pos c7).symm.trans h
      subst c7
      refine am_catch F hNC hT ⟨by decide, by decide⟩ [] ⟨0, 10, 13, 13⟩ [⟨0, 10, 17, 15⟩] rfl (fun z hz => nomatch hz) (by decide) (by decide) wd_593 nd_700 (fun q8 => ?_)
      refine am_astore F [(4, .ref q8), (0, .ref (z + 0)), (1, .int a1), (2, .int a2), (3, .ref (z + 186))] dL_statistic_13 (by decide) rfl ?_
      refine am_iconst F (v := (1 : Int32)) dL_statistic_15 (by decide) ?_
      exact am_liret F hr ⟨Nat.le_of_ble_eq_true rfl, Nat.le_of_ble_eq_true rfl⟩ h dL_statistic_16
    · have h := (if_neg c7).symm.trans h
      by_cases c9 : k6 = 2
      · have h := (if_pos c9).symm.trans h
        subst c9
        refine am_catch F hNC hT ⟨by decide, by decide⟩ [⟨0, 10, 13, 13⟩] ⟨0, 10, 17, 15⟩ [] rfl (by
            intro z hz
            simp only [List.mem_cons, List.not_mem_nil, or_false] at hz
            rcases hz with rfl
            · exact ⟨by decide, 1, by decide, by decide, by decide, wd_593⟩) (by decide) (by decide) wd_673 nd_713 (fun q10 => ?_)
        refine am_astore F [(4, .ref q10), (0, .ref (z + 0)), (1, .int a1), (2, .int a2), (3, .ref (z + 186))] dL_statistic_17 (by decide) rfl ?_
        refine am_iconst F (v := (2 : Int32)) dL_statistic_19 (by decide) ?_
        exact am_liret F hr ⟨Nat.le_of_ble_eq_true rfl, Nat.le_of_ble_eq_true rfl⟩ h dL_statistic_20
      · have h := (if_neg c9).symm.trans h
        cases h
/-! the law's activity(LAisleScheduler;I[D)I -/
abbrev rm_L_activity : Room := { frames := 8, cells := 2, slots := 12, locals := 143 }
theorem yn_L_activity : am_yn yL_activity 3 := ⟨⟨by decide +kernel, by decide +kernel⟩, by decide +kernel⟩
def g_L_activity (a1 : Int32) (M : am_M) : Option (Int32 × am_M) := (am_bt (g_X9_activity a1 M) (fun v4 M2 => (am_c ((FP.f2d v4) &&& 0x7fffffffffffffff ≤ 0x7ff0000000000000) (am_ci (0 : Int32) 1 (some ((0 : Int32), (am_ds M2 187 (0 : Int32).toNatClampNeg (FP.f2d v4))))))) (fun k7 M2 => (if k7 = 1 then (some ((1 : Int32), M2)) else (if k7 = 6 then (some ((2 : Int32), M2)) else none))))
set_option maxHeartbeats 4000000 in
set_option maxRecDepth 100000 in
theorem c_L_activity (l : Launch) (hls : l.stackTraces = false) (D : va_G) (E : Nat → ClassId) (z : Nat) (a1 : Int32) (M : am_M) (r0 : Int32) (M1 : am_M) (h : g_L_activity a1 M = some (r0, M1)) : am_Li l yL_activity cL_activity 4 (some .int) [(0, 9, 12, 13), (0, 9, 15, 101)] rm_L_activity D E z [.ref (z + 0), .int a1, .ref (z + 187)] M 2 12 r0 M1 := by
  unfold g_L_activity at h
  refine am_lof (own := RL) (by decide +kernel) rfl (by exact Nat.le_of_ble_eq_true rfl) ?_
  intro p e s m args below meth c F hr hNC hT
  show am_W p l e rm_L_activity s m args below meth c _ 4 D E z 0 0 M 0 [(0, .ref (z + 0)), (1, .int a1), (2, .ref (z + 187))] []
  refine am_aload_n F 2 dL_activity_0 rfl rfl ?_
  refine am_iconst F (v := (0 : Int32)) dL_activity_1 (by decide) ?_
  refine am_aload_n F 0 dL_activity_2 rfl rfl ?_
  refine am_iload_n F 1 dL_activity_3 rfl rfl ?_
  obtain ⟨o3, M2, h1, h⟩ := am_btE h
  refine am_tcallVf F [.int a1] lyk_0 (by decide) rfl cw_L_97 (c_X9_activity l hls D E z a1 M o3 M2 h1) yn_X9_activity rfl ⟨Nat.le_of_ble_eq_true rfl, Nat.le_of_ble_eq_true rfl⟩ rfl rfl (Nat.le_of_ble_eq_true rfl) ⟨Nat.le_of_ble_eq_true rfl, Nat.le_of_ble_eq_true rfl⟩ dL_activity_4 rfl h (fun v4 h => ?_) (fun k7 h => ?_)
  · obtain ⟨q5, h⟩ := am_cE h
    refine am_f2d F dL_activity_7 q5 ?_
    obtain ⟨q6, h⟩ := am_ciE h
    refine am_dast F lyk_187 q6 dL_activity_8 ?_
    refine am_goto F (tgt := 18) dL_activity_9 (by decide) ?_
    refine am_iconst F (v := (0 : Int32)) dL_activity_18 (by decide) ?_
    exact am_liret F hr ⟨Nat.le_of_ble_eq_true rfl, Nat.le_of_ble_eq_true rfl⟩ h dL_activity_19
  · skip
    by_cases c8 : k7 = 1
    · have h := (if_pos c8).symm.trans h
      subst c8
      refine am_catch F hNC hT ⟨by decide, by decide⟩ [] ⟨0, 9, 12, 13⟩ [⟨0, 9, 15, 101⟩] rfl (fun z hz => nomatch hz) (by decide) (by decide) wd_593 nd_700 (fun q9 => ?_)
      refine am_astore_n F [(3, .ref q9), (0, .ref (z + 0)), (1, .int a1), (2, .ref (z + 187))] dL_activity_12 rfl (by decide) rfl ?_
      refine am_iconst F (v := (1 : Int32)) dL_activity_13 (by decide) ?_
      exact am_liret F hr ⟨Nat.le_of_ble_eq_true rfl, Nat.le_of_ble_eq_true rfl⟩ h dL_activity_14
    · have h := (if_neg c8).symm.trans h
      by_cases c10 : k7 = 6
      · have h := (if_pos c10).symm.trans h
        subst c10
        refine am_catch F hNC hT ⟨by decide, by decide⟩ [⟨0, 9, 12, 13⟩] ⟨0, 9, 15, 101⟩ [] rfl (by
            intro z hz
            simp only [List.mem_cons, List.not_mem_nil, or_false] at hz
            rcases hz with rfl
            · exact ⟨by decide, 1, by decide, by decide, by decide, wd_593⟩) (by decide) (by decide) wd_1130 nd_1142 (fun q11 => ?_)
        refine am_astore_n F [(3, .ref q11), (0, .ref (z + 0)), (1, .int a1), (2, .ref (z + 187))] dL_activity_15 rfl (by decide) rfl ?_
        refine am_iconst F (v := (2 : Int32)) dL_activity_16 (by decide) ?_
        exact am_liret F hr ⟨Nat.le_of_ble_eq_true rfl, Nat.le_of_ble_eq_true rfl⟩ h dL_activity_17
      · have h := (if_neg c10).symm.trans h
        cases h
/-! the law's activityBits(LAisleScheduler;I[J)I -/
abbrev rm_L_activityBits : Room := { frames := 8, cells := 2, slots := 12, locals := 143 }
theorem yn_L_activityBits : am_yn yL_activityBits 3 := ⟨⟨by decide +kernel, by decide +kernel⟩, by decide +kernel⟩
def g_L_activityBits (a1 : Int32) (M : am_M) : Option (Int32 × am_M) := (am_bt (g_X9_activityBits a1 M) (fun v4 M2 => (am_ci (0 : Int32) 1 (some ((0 : Int32), (am_ls M2 186 (0 : Int32).toNatClampNeg (v4.toInt64)))))) (fun k6 M2 => (if k6 = 1 then (some ((1 : Int32), M2)) else (if k6 = 6 then (some ((2 : Int32), M2)) else none))))
set_option maxHeartbeats 4000000 in
set_option maxRecDepth 100000 in
theorem c_L_activityBits (l : Launch) (hls : l.stackTraces = false) (D : va_G) (E : Nat → ClassId) (z : Nat) (a1 : Int32) (M : am_M) (r0 : Int32) (M1 : am_M) (h : g_L_activityBits a1 M = some (r0, M1)) : am_Li l yL_activityBits cL_activityBits 4 (some .int) [(0, 9, 12, 13), (0, 9, 15, 101)] rm_L_activityBits D E z [.ref (z + 0), .int a1, .ref (z + 186)] M 2 12 r0 M1 := by
  unfold g_L_activityBits at h
  refine am_lof (own := RL) (by decide +kernel) rfl (by exact Nat.le_of_ble_eq_true rfl) ?_
  intro p e s m args below meth c F hr hNC hT
  show am_W p l e rm_L_activityBits s m args below meth c _ 4 D E z 0 0 M 0 [(0, .ref (z + 0)), (1, .int a1), (2, .ref (z + 186))] []
  refine am_aload_n F 2 dL_activityBits_0 rfl rfl ?_
  refine am_iconst F (v := (0 : Int32)) dL_activityBits_1 (by decide) ?_
  refine am_aload_n F 0 dL_activityBits_2 rfl rfl ?_
  refine am_iload_n F 1 dL_activityBits_3 rfl rfl ?_
  obtain ⟨o3, M2, h1, h⟩ := am_btE h
  refine am_tcallVi F [.int a1] lyk_0 (by decide) rfl cw_L_103 (c_X9_activityBits l hls D E z a1 M o3 M2 h1) yn_X9_activityBits rfl ⟨Nat.le_of_ble_eq_true rfl, Nat.le_of_ble_eq_true rfl⟩ rfl rfl (Nat.le_of_ble_eq_true rfl) ⟨Nat.le_of_ble_eq_true rfl, Nat.le_of_ble_eq_true rfl⟩ dL_activityBits_4 rfl h (fun v4 h => ?_) (fun k6 h => ?_)
  · refine am_i2l F dL_activityBits_7 ?_
    obtain ⟨q5, h⟩ := am_ciE h
    refine am_last F lyk_186 q5 dL_activityBits_8 ?_
    refine am_goto F (tgt := 18) dL_activityBits_9 (by decide) ?_
    refine am_iconst F (v := (0 : Int32)) dL_activityBits_18 (by decide) ?_
    exact am_liret F hr ⟨Nat.le_of_ble_eq_true rfl, Nat.le_of_ble_eq_true rfl⟩ h dL_activityBits_19
  · skip
    by_cases c7 : k6 = 1
    · have h := (if_pos c7).symm.trans h
      subst c7
      refine am_catch F hNC hT ⟨by decide, by decide⟩ [] ⟨0, 9, 12, 13⟩ [⟨0, 9, 15, 101⟩] rfl (fun z hz => nomatch hz) (by decide) (by decide) wd_593 nd_700 (fun q8 => ?_)
      refine am_astore_n F [(3, .ref q8), (0, .ref (z + 0)), (1, .int a1), (2, .ref (z + 186))] dL_activityBits_12 rfl (by decide) rfl ?_
      refine am_iconst F (v := (1 : Int32)) dL_activityBits_13 (by decide) ?_
      exact am_liret F hr ⟨Nat.le_of_ble_eq_true rfl, Nat.le_of_ble_eq_true rfl⟩ h dL_activityBits_14
    · have h := (if_neg c7).symm.trans h
      by_cases c9 : k6 = 6
      · have h := (if_pos c9).symm.trans h
        subst c9
        refine am_catch F hNC hT ⟨by decide, by decide⟩ [⟨0, 9, 12, 13⟩] ⟨0, 9, 15, 101⟩ [] rfl (by
            intro z hz
            simp only [List.mem_cons, List.not_mem_nil, or_false] at hz
            rcases hz with rfl
            · exact ⟨by decide, 1, by decide, by decide, by decide, wd_593⟩) (by decide) (by decide) wd_1130 nd_1142 (fun q10 => ?_)
        refine am_astore_n F [(3, .ref q10), (0, .ref (z + 0)), (1, .int a1), (2, .ref (z + 186))] dL_activityBits_15 rfl (by decide) rfl ?_
        refine am_iconst F (v := (2 : Int32)) dL_activityBits_16 (by decide) ?_
        exact am_liret F hr ⟨Nat.le_of_ble_eq_true rfl, Nat.le_of_ble_eq_true rfl⟩ h dL_activityBits_17
      · have h := (if_neg c9).symm.trans h
        cases h
/-! the law's averageDelay(LAisleScheduler;[D)I -/
abbrev rm_L_averageDelay : Room := { frames := 7, cells := 1, slots := 6, locals := 124 }
theorem yn_L_averageDelay : am_yn yL_averageDelay 2 := ⟨⟨by decide +kernel, by decide +kernel⟩, by decide +kernel⟩
def g_L_averageDelay  (M : am_M) : Option (Int32 × am_M) := (am_bt (g_X9_averageDelay  M) (fun v4 M2 => (am_ci (0 : Int32) 1 (some ((0 : Int32), (am_ds M2 187 (0 : Int32).toNatClampNeg v4))))) (fun k6 M2 => (if k6 = 6 then (some ((1 : Int32), M2)) else none)))
set_option maxHeartbeats 4000000 in
set_option maxRecDepth 100000 in
theorem c_L_averageDelay (l : Launch) (hls : l.stackTraces = false) (D : va_G) (E : Nat → ClassId) (z : Nat)  (M : am_M) (r0 : Int32) (M1 : am_M) (h : g_L_averageDelay  M = some (r0, M1)) : am_Li l yL_averageDelay cL_averageDelay 3 (some .int) [(0, 7, 10, 101)] rm_L_averageDelay D E z [.ref (z + 0), .ref (z + 187)] M 1 6 r0 M1 := by
  unfold g_L_averageDelay at h
  refine am_lof (own := RL) (by decide +kernel) rfl (by exact Nat.le_of_ble_eq_true rfl) ?_
  intro p e s m args below meth c F hr hNC hT
  show am_W p l e rm_L_averageDelay s m args below meth c _ 3 D E z 0 0 M 0 [(0, .ref (z + 0)), (1, .ref (z + 187))] []
  refine am_aload_n F 1 dL_averageDelay_0 rfl rfl ?_
  refine am_iconst F (v := (0 : Int32)) dL_averageDelay_1 (by decide) ?_
  refine am_aload_n F 0 dL_averageDelay_2 rfl rfl ?_
  obtain ⟨o3, M2, h1, h⟩ := am_btE h
  refine am_tcallVd F [] lyk_0 (by decide) rfl cw_L_106 (c_X9_averageDelay l hls D E z  M o3 M2 h1) yn_X9_averageDelay rfl ⟨Nat.le_of_ble_eq_true rfl, Nat.le_of_ble_eq_true rfl⟩ rfl rfl (Nat.le_of_ble_eq_true rfl) ⟨Nat.le_of_ble_eq_true rfl, Nat.le_of_ble_eq_true rfl⟩ dL_averageDelay_3 rfl h (fun v4 h => ?_) (fun k6 h => ?_)
  · obtain ⟨q5, h⟩ := am_ciE h
    refine am_dast F lyk_187 q5 dL_averageDelay_6 ?_
    refine am_goto F (tgt := 13) dL_averageDelay_7 (by decide) ?_
    refine am_iconst F (v := (0 : Int32)) dL_averageDelay_13 (by decide) ?_
    exact am_liret F hr ⟨Nat.le_of_ble_eq_true rfl, Nat.le_of_ble_eq_true rfl⟩ h dL_averageDelay_14
  · skip
    by_cases c7 : k6 = 6
    · have h := (if_pos c7).symm.trans h
      subst c7
      refine am_catch F hNC hT ⟨by decide, by decide⟩ [] ⟨0, 7, 10, 101⟩ [] rfl (fun z hz => nomatch hz) (by decide) (by decide) wd_1130 nd_1142 (fun q8 => ?_)
      refine am_astore_n F [(2, .ref q8), (0, .ref (z + 0)), (1, .ref (z + 187))] dL_averageDelay_10 rfl (by decide) rfl ?_
      refine am_iconst F (v := (1 : Int32)) dL_averageDelay_11 (by decide) ?_
      exact am_liret F hr ⟨Nat.le_of_ble_eq_true rfl, Nat.le_of_ble_eq_true rfl⟩ h dL_averageDelay_12
    · have h := (if_neg c7).symm.trans h
      cases h
/-! the law's visits(LAisleScheduler;I[J)I -/
abbrev rm_L_visits : Room := { frames := 8, cells := 1, slots := 6, locals := 141 }
theorem yn_L_visits : am_yn yL_visits 3 := ⟨⟨by decide +kernel, by decide +kernel⟩, by decide +kernel⟩
def g_L_visits (a1 : Int32) (M : am_M) : Option (Int32 × am_M) := (am_bt (g_X9_visits a1 M) (fun v4 M2 => (am_ci (0 : Int32) 1 (some ((0 : Int32), (am_ls M2 186 (0 : Int32).toNatClampNeg (v4.toInt64)))))) (fun k6 M2 => (if k6 = 1 then (some ((1 : Int32), M2)) else none)))
set_option maxHeartbeats 4000000 in
set_option maxRecDepth 100000 in
theorem c_L_visits (l : Launch) (hls : l.stackTraces = false) (D : va_G) (E : Nat → ClassId) (z : Nat) (a1 : Int32) (M : am_M) (r0 : Int32) (M1 : am_M) (h : g_L_visits a1 M = some (r0, M1)) : am_Li l yL_visits cL_visits 4 (some .int) [(0, 9, 12, 13)] rm_L_visits D E z [.ref (z + 0), .int a1, .ref (z + 186)] M 1 6 r0 M1 := by
  unfold g_L_visits at h
  refine am_lof (own := RL) (by decide +kernel) rfl (by exact Nat.le_of_ble_eq_true rfl) ?_
  intro p e s m args below meth c F hr hNC hT
  show am_W p l e rm_L_visits s m args below meth c _ 4 D E z 0 0 M 0 [(0, .ref (z + 0)), (1, .int a1), (2, .ref (z + 186))] []
  refine am_aload_n F 2 dL_visits_0 rfl rfl ?_
  refine am_iconst F (v := (0 : Int32)) dL_visits_1 (by decide) ?_
  refine am_aload_n F 0 dL_visits_2 rfl rfl ?_
  refine am_iload_n F 1 dL_visits_3 rfl rfl ?_
  obtain ⟨o3, M2, h1, h⟩ := am_btE h
  refine am_tcallVi F [.int a1] lyk_0 (by decide) rfl cw_L_110 (c_X9_visits l hls D E z a1 M o3 M2 h1) yn_X9_visits rfl ⟨Nat.le_of_ble_eq_true rfl, Nat.le_of_ble_eq_true rfl⟩ rfl rfl (Nat.le_of_ble_eq_true rfl) ⟨Nat.le_of_ble_eq_true rfl, Nat.le_of_ble_eq_true rfl⟩ dL_visits_4 rfl h (fun v4 h => ?_) (fun k6 h => ?_)
  · refine am_i2l F dL_visits_7 ?_
    obtain ⟨q5, h⟩ := am_ciE h
    refine am_last F lyk_186 q5 dL_visits_8 ?_
    refine am_goto F (tgt := 15) dL_visits_9 (by decide) ?_
    refine am_iconst F (v := (0 : Int32)) dL_visits_15 (by decide) ?_
    exact am_liret F hr ⟨Nat.le_of_ble_eq_true rfl, Nat.le_of_ble_eq_true rfl⟩ h dL_visits_16
  · skip
    by_cases c7 : k6 = 1
    · have h := (if_pos c7).symm.trans h
      subst c7
      refine am_catch F hNC hT ⟨by decide, by decide⟩ [] ⟨0, 9, 12, 13⟩ [] rfl (fun z hz => nomatch hz) (by decide) (by decide) wd_593 nd_700 (fun q8 => ?_)
      refine am_astore_n F [(3, .ref q8), (0, .ref (z + 0)), (1, .int a1), (2, .ref (z + 186))] dL_visits_12 rfl (by decide) rfl ?_
      refine am_iconst F (v := (1 : Int32)) dL_visits_13 (by decide) ?_
      exact am_liret F hr ⟨Nat.le_of_ble_eq_true rfl, Nat.le_of_ble_eq_true rfl⟩ h dL_visits_14
    · have h := (if_neg c7).symm.trans h
      cases h
/-! the law's sample(LAisleScheduler;III[J)I -/
abbrev rm_L_sample : Room := { frames := 8, cells := 3, slots := 18, locals := 146 }
theorem yn_L_sample : am_yn yL_sample 5 := ⟨⟨by decide +kernel, by decide +kernel⟩, by decide +kernel⟩
def g_L_sample (a1 : Int32) (a2 : Int32) (a3 : Int32) (M : am_M) : Option (Int32 × am_M) := (am_bt (g_X9_sample a1 a2 a3 M) (fun v4 M2 => (am_ci (0 : Int32) 1 (some ((0 : Int32), (am_ls M2 186 (0 : Int32).toNatClampNeg (v4.toInt64)))))) (fun k6 M2 => (if k6 = 1 then (some ((1 : Int32), M2)) else (if k6 = 5 then (some ((2 : Int32), M2)) else none))))
set_option maxHeartbeats 4000000 in
set_option maxRecDepth 100000 in
theorem c_L_sample (l : Launch) (hls : l.stackTraces = false) (D : va_G) (E : Nat → ClassId) (z : Nat) (a1 : Int32) (a2 : Int32) (a3 : Int32) (M : am_M) (r0 : Int32) (M1 : am_M) (h : g_L_sample a1 a2 a3 M = some (r0, M1)) : am_Li l yL_sample cL_sample 6 (some .int) [(0, 12, 15, 13), (0, 12, 19, 46)] rm_L_sample D E z [.ref (z + 0), .int a1, .int a2, .int a3, .ref (z + 186)] M 3 18 r0 M1 := by
  unfold g_L_sample at h
  refine am_lof (own := RL) (by decide +kernel) rfl (by exact Nat.le_of_ble_eq_true rfl) ?_
  intro p e s m args below meth c F hr hNC hT
  show am_W p l e rm_L_sample s m args below meth c _ 6 D E z 0 0 M 0 [(0, .ref (z + 0)), (1, .int a1), (2, .int a2), (3, .int a3), (4, .ref (z + 186))] []
  refine am_aload F 4 dL_sample_0 rfl ?_
  refine am_iconst F (v := (0 : Int32)) dL_sample_2 (by decide) ?_
  refine am_aload_n F 0 dL_sample_3 rfl rfl ?_
  refine am_iload_n F 1 dL_sample_4 rfl rfl ?_
  refine am_iload_n F 2 dL_sample_5 rfl rfl ?_
  refine am_iload_n F 3 dL_sample_6 rfl rfl ?_
  obtain ⟨o3, M2, h1, h⟩ := am_btE h
  refine am_tcallVi F [.int a1, .int a2, .int a3] lyk_0 (by decide) rfl cw_L_113 (c_X9_sample l hls D E z a1 a2 a3 M o3 M2 h1) yn_X9_sample rfl ⟨Nat.le_of_ble_eq_true rfl, Nat.le_of_ble_eq_true rfl⟩ rfl rfl (Nat.le_of_ble_eq_true rfl) ⟨Nat.le_of_ble_eq_true rfl, Nat.le_of_ble_eq_true rfl⟩ dL_sample_7 rfl h (fun v4 h => ?_) (fun k6 h => ?_)
  · refine am_i2l F dL_sample_10 ?_
    obtain ⟨q5, h⟩ := am_ciE h
    refine am_last F lyk_186 q5 dL_sample_11 ?_
    refine am_goto F (tgt := 23) dL_sample_12 (by decide) ?_
    refine am_iconst F (v := (0 : Int32)) dL_sample_23 (by decide) ?_
    exact am_liret F hr ⟨Nat.le_of_ble_eq_true rfl, Nat.le_of_ble_eq_true rfl⟩ h dL_sample_24
  · skip
    by_cases c7 : k6 = 1
    · have h := (if_pos c7).symm.trans h
      subst c7
      refine am_catch F hNC hT ⟨by decide, by decide⟩ [] ⟨0, 12, 15, 13⟩ [⟨0, 12, 19, 46⟩] rfl (fun z hz => nomatch hz) (by decide) (by decide) wd_593 nd_700 (fun q8 => ?_)
      refine am_astore F [(5, .ref q8), (0, .ref (z + 0)), (1, .int a1), (2, .int a2), (3, .int a3), (4, .ref (z + 186))] dL_sample_15 (by decide) rfl ?_
      refine am_iconst F (v := (1 : Int32)) dL_sample_17 (by decide) ?_
      exact am_liret F hr ⟨Nat.le_of_ble_eq_true rfl, Nat.le_of_ble_eq_true rfl⟩ h dL_sample_18
    · have h := (if_neg c7).symm.trans h
      by_cases c9 : k6 = 5
      · have h := (if_pos c9).symm.trans h
        subst c9
        refine am_catch F hNC hT ⟨by decide, by decide⟩ [⟨0, 12, 15, 13⟩] ⟨0, 12, 19, 46⟩ [] rfl (by
            intro z hz
            simp only [List.mem_cons, List.not_mem_nil, or_false] at hz
            rcases hz with rfl
            · exact ⟨by decide, 1, by decide, by decide, by decide, wd_593⟩) (by decide) (by decide) wd_876 nd_899 (fun q10 => ?_)
        refine am_astore F [(5, .ref q10), (0, .ref (z + 0)), (1, .int a1), (2, .int a2), (3, .int a3), (4, .ref (z + 186))] dL_sample_19 (by decide) rfl ?_
        refine am_iconst F (v := (2 : Int32)) dL_sample_21 (by decide) ?_
        exact am_liret F hr ⟨Nat.le_of_ble_eq_true rfl, Nat.le_of_ble_eq_true rfl⟩ h dL_sample_22
      · have h := (if_neg c9).symm.trans h
        cases h
/-! the law's sampled(LAisleScheduler;III[J)I -/
abbrev rm_L_sampled : Room := { frames := 8, cells := 2, slots := 12, locals := 145 }
theorem yn_L_sampled : am_yn yL_sampled 5 := ⟨⟨by decide +kernel, by decide +kernel⟩, by decide +kernel⟩
def g_L_sampled (a1 : Int32) (a2 : Int32) (a3 : Int32) (M : am_M) : Option (Int32 × am_M) := (am_bt (g_X9_sampled a1 a2 a3 M) (fun v4 M2 => (am_ci (0 : Int32) 1 (some ((0 : Int32), (am_ls M2 186 (0 : Int32).toNatClampNeg (v4.toInt64)))))) (fun k6 M2 => (if k6 = 1 then (some ((1 : Int32), M2)) else (if k6 = 2 then (some ((2 : Int32), M2)) else (if k6 = 4 then (some ((3 : Int32), M2)) else none)))))
set_option maxHeartbeats 4000000 in
set_option maxRecDepth 100000 in
theorem c_L_sampled (l : Launch) (hls : l.stackTraces = false) (D : va_G) (E : Nat → ClassId) (z : Nat) (a1 : Int32) (a2 : Int32) (a3 : Int32) (M : am_M) (r0 : Int32) (M1 : am_M) (h : g_L_sampled a1 a2 a3 M = some (r0, M1)) : am_Li l yL_sampled cL_sampled 6 (some .int) [(0, 12, 15, 13), (0, 12, 19, 15), (0, 12, 23, 41)] rm_L_sampled D E z [.ref (z + 0), .int a1, .int a2, .int a3, .ref (z + 186)] M 2 12 r0 M1 := by
  unfold g_L_sampled at h
  refine am_lof (own := RL) (by decide +kernel) rfl (by exact Nat.le_of_ble_eq_true rfl) ?_
  intro p e s m args below meth c F hr hNC hT
  show am_W p l e rm_L_sampled s m args below meth c _ 6 D E z 0 0 M 0 [(0, .ref (z + 0)), (1, .int a1), (2, .int a2), (3, .int a3), (4, .ref (z + 186))] []
  refine am_aload F 4 dL_sampled_0 rfl ?_
  refine am_iconst F (v := (0 : Int32)) dL_sampled_2 (by decide) ?_
  refine am_aload_n F 0 dL_sampled_3 rfl rfl ?_
  refine am_iload_n F 1 dL_sampled_4 rfl rfl ?_
  refine am_iload_n F 2 dL_sampled_5 rfl rfl ?_
  refine am_iload_n F 3 dL_sampled_6 rfl rfl ?_
  obtain ⟨o3, M2, h1, h⟩ := am_btE h
  refine am_tcallVi F [.int a1, .int a2, .int a3] lyk_0 (by decide) rfl cw_L_117 (c_X9_sampled l hls D E z a1 a2 a3 M o3 M2 h1) yn_X9_sampled rfl ⟨Nat.le_of_ble_eq_true rfl, Nat.le_of_ble_eq_true rfl⟩ rfl rfl (Nat.le_of_ble_eq_true rfl) ⟨Nat.le_of_ble_eq_true rfl, Nat.le_of_ble_eq_true rfl⟩ dL_sampled_7 rfl h (fun v4 h => ?_) (fun k6 h => ?_)
  · refine am_i2l F dL_sampled_10 ?_
    obtain ⟨q5, h⟩ := am_ciE h
    refine am_last F lyk_186 q5 dL_sampled_11 ?_
    refine am_goto F (tgt := 27) dL_sampled_12 (by decide) ?_
    refine am_iconst F (v := (0 : Int32)) dL_sampled_27 (by decide) ?_
    exact am_liret F hr ⟨Nat.le_of_ble_eq_true rfl, Nat.le_of_ble_eq_true rfl⟩ h dL_sampled_28
  · skip
    by_cases c7 : k6 = 1
    · have h := (if_pos c7).symm.trans h
      subst c7
      refine am_catch F hNC hT ⟨by decide, by decide⟩ [] ⟨0, 12, 15, 13⟩ [⟨0, 12, 19, 15⟩, ⟨0, 12, 23, 41⟩] rfl (fun z hz => nomatch hz) (by decide) (by decide) wd_593 nd_700 (fun q8 => ?_)
      refine am_astore F [(5, .ref q8), (0, .ref (z + 0)), (1, .int a1), (2, .int a2), (3, .int a3), (4, .ref (z + 186))] dL_sampled_15 (by decide) rfl ?_
      refine am_iconst F (v := (1 : Int32)) dL_sampled_17 (by decide) ?_
      exact am_liret F hr ⟨Nat.le_of_ble_eq_true rfl, Nat.le_of_ble_eq_true rfl⟩ h dL_sampled_18
    · have h := (if_neg c7).symm.trans h
      by_cases c9 : k6 = 2
      · have h := (if_pos c9).symm.trans h
        subst c9
        refine am_catch F hNC hT ⟨by decide, by decide⟩ [⟨0, 12, 15, 13⟩] ⟨0, 12, 19, 15⟩ [⟨0, 12, 23, 41⟩] rfl (by
            intro z hz
            simp only [List.mem_cons, List.not_mem_nil, or_false] at hz
            rcases hz with rfl
            · exact ⟨by decide, 1, by decide, by decide, by decide, wd_593⟩) (by decide) (by decide) wd_673 nd_713 (fun q10 => ?_)
        refine am_astore F [(5, .ref q10), (0, .ref (z + 0)), (1, .int a1), (2, .int a2), (3, .int a3), (4, .ref (z + 186))] dL_sampled_19 (by decide) rfl ?_
        refine am_iconst F (v := (2 : Int32)) dL_sampled_21 (by decide) ?_
        exact am_liret F hr ⟨Nat.le_of_ble_eq_true rfl, Nat.le_of_ble_eq_true rfl⟩ h dL_sampled_22
      · have h := (if_neg c9).symm.trans h
        by_cases c11 : k6 = 4
        · have h := (if_pos c11).symm.trans h
          subst c11
          refine am_catch F hNC hT ⟨by decide, by decide⟩ [⟨0, 12, 15, 13⟩, ⟨0, 12, 19, 15⟩] ⟨0, 12, 23, 41⟩ [] rfl (by
              intro z hz
              simp only [List.mem_cons, List.not_mem_nil, or_false] at hz
              rcases hz with rfl | rfl
              · exact ⟨by decide, 1, by decide, by decide, by decide, wd_593⟩
              · exact ⟨by decide, 2, by decide, by decide, by decide, wd_673⟩) (by decide) (by decide) wd_847 nd_859 (fun q12 => ?_)
          refine am_astore F [(5, .ref q12), (0, .ref (z + 0)), (1, .int a1), (2, .int a2), (3, .int a3), (4, .ref (z + 186))] dL_sampled_23 (by decide) rfl ?_
          refine am_iconst F (v := (3 : Int32)) dL_sampled_25 (by decide) ?_
          exact am_liret F hr ⟨Nat.le_of_ble_eq_true rfl, Nat.le_of_ble_eq_true rfl⟩ h dL_sampled_26
        · have h := (if_neg c11).symm.trans h
          cases h
/-! the law's append(LAisleScheduler;C[J)I -/
abbrev rm_L_append : Room := { frames := 7, cells := 1, slots := 6, locals := 121 }
theorem yn_L_append : am_yn yL_append 3 := ⟨⟨by decide +kernel, by decide +kernel⟩, by decide +kernel⟩
def g_L_append (a1 : Int32) (M : am_M) : Option (Int32 × am_M) := (am_bt (g_X9_append a1 M) (fun v4 M2 => (am_ci (0 : Int32) 1 (some ((0 : Int32), (am_ls M2 186 (0 : Int32).toNatClampNeg (v4.toInt64)))))) (fun k6 M2 => (if k6 = 2 then (some ((1 : Int32), M2)) else (if k6 = 3 then (some ((2 : Int32), M2)) else none))))
set_option maxHeartbeats 4000000 in
set_option maxRecDepth 100000 in
theorem c_L_append (l : Launch) (hls : l.stackTraces = false) (D : va_G) (E : Nat → ClassId) (z : Nat) (a1 : Int32) (M : am_M) (r0 : Int32) (M1 : am_M) (h : g_L_append a1 M = some (r0, M1)) : am_Li l yL_append cL_append 4 (some .int) [(0, 9, 12, 15), (0, 9, 15, 17)] rm_L_append D E z [.ref (z + 0), .int a1, .ref (z + 186)] M 1 6 r0 M1 := by
  unfold g_L_append at h
  refine am_lof (own := RL) (by decide +kernel) rfl (by exact Nat.le_of_ble_eq_true rfl) ?_
  intro p e s m args below meth c F hr hNC hT
  show am_W p l e rm_L_append s m args below meth c _ 4 D E z 0 0 M 0 [(0, .ref (z + 0)), (1, .int a1), (2, .ref (z + 186))] []
  refine am_aload_n F 2 dL_append_0 rfl rfl ?_
  refine am_iconst F (v := (0 : Int32)) dL_append_1 (by decide) ?_
  refine am_aload_n F 0 dL_append_2 rfl rfl ?_
  refine am_iload_n F 1 dL_append_3 rfl rfl ?_
  obtain ⟨o3, M2, h1, h⟩ := am_btE h
  refine am_tcallVi F [.int a1] lyk_0 (by decide) rfl cw_L_120 (c_X9_append l hls D E z a1 M o3 M2 h1) yn_X9_append rfl ⟨Nat.le_of_ble_eq_true rfl, Nat.le_of_ble_eq_true rfl⟩ rfl rfl (Nat.le_of_ble_eq_true rfl) ⟨Nat.le_of_ble_eq_true rfl, Nat.le_of_ble_eq_true rfl⟩ dL_append_4 rfl h (fun v4 h => ?_) (fun k6 h => ?_)
  · refine am_i2l F dL_append_7 ?_
    obtain ⟨q5, h⟩ := am_ciE h
    refine am_last F lyk_186 q5 dL_append_8 ?_
    refine am_goto F (tgt := 18) dL_append_9 (by decide) ?_
    refine am_iconst F (v := (0 : Int32)) dL_append_18 (by decide) ?_
    exact am_liret F hr ⟨Nat.le_of_ble_eq_true rfl, Nat.le_of_ble_eq_true rfl⟩ h dL_append_19
  · skip
    by_cases c7 : k6 = 2
    · have h := (if_pos c7).symm.trans h
      subst c7
      refine am_catch F hNC hT ⟨by decide, by decide⟩ [] ⟨0, 9, 12, 15⟩ [⟨0, 9, 15, 17⟩] rfl (fun z hz => nomatch hz) (by decide) (by decide) wd_673 nd_713 (fun q8 => ?_)
      refine am_astore_n F [(3, .ref q8), (0, .ref (z + 0)), (1, .int a1), (2, .ref (z + 186))] dL_append_12 rfl (by decide) rfl ?_
      refine am_iconst F (v := (1 : Int32)) dL_append_13 (by decide) ?_
      exact am_liret F hr ⟨Nat.le_of_ble_eq_true rfl, Nat.le_of_ble_eq_true rfl⟩ h dL_append_14
    · have h := (if_neg c7).symm.trans h
      by_cases c9 : k6 = 3
      · have h := (if_pos c9).symm.trans h
        subst c9
        refine am_catch F hNC hT ⟨by decide, by decide⟩ [⟨0, 9, 12, 15⟩] ⟨0, 9, 15, 17⟩ [] rfl (by
            intro z hz
            simp only [List.mem_cons, List.not_mem_nil, or_false] at hz
            rcases hz with rfl
            · exact ⟨by decide, 2, by decide, by decide, by decide, wd_673⟩) (by decide) (by decide) wd_674 nd_729 (fun q10 => ?_)
        refine am_astore_n F [(3, .ref q10), (0, .ref (z + 0)), (1, .int a1), (2, .ref (z + 186))] dL_append_15 rfl (by decide) rfl ?_
        refine am_iconst F (v := (2 : Int32)) dL_append_16 (by decide) ?_
        exact am_liret F hr ⟨Nat.le_of_ble_eq_true rfl, Nat.le_of_ble_eq_true rfl⟩ h dL_append_17
      · have h := (if_neg c9).symm.trans h
        cases h
/-! the law's read(LAisleScheduler;[J)I -/
abbrev rm_L_read : Room := { frames := 8, cells := 1, slots := 6, locals := 179 }
theorem yn_L_read : am_yn yL_read 2 := ⟨⟨by decide +kernel, by decide +kernel⟩, by decide +kernel⟩
def g_L_read  (M : am_M) : Option (Int32 × am_M) := (am_bt (g_X9_read  M) (fun v4 M2 => (am_ci (0 : Int32) 1 (some ((0 : Int32), (am_ls M2 186 (0 : Int32).toNatClampNeg (v4.toInt64)))))) (fun k6 M2 => (if k6 = 2 then (some ((1 : Int32), M2)) else (if k6 = 3 then (some ((2 : Int32), M2)) else none))))
set_option maxHeartbeats 4000000 in
set_option maxRecDepth 100000 in
theorem c_L_read (l : Launch) (hls : l.stackTraces = false) (D : va_G) (E : Nat → ClassId) (z : Nat)  (M : am_M) (r0 : Int32) (M1 : am_M) (h : g_L_read  M = some (r0, M1)) : am_Li l yL_read cL_read 3 (some .int) [(0, 8, 11, 15), (0, 8, 14, 17)] rm_L_read D E z [.ref (z + 0), .ref (z + 186)] M 1 6 r0 M1 := by
  unfold g_L_read at h
  refine am_lof (own := RL) (by decide +kernel) rfl (by exact Nat.le_of_ble_eq_true rfl) ?_
  intro p e s m args below meth c F hr hNC hT
  show am_W p l e rm_L_read s m args below meth c _ 3 D E z 0 0 M 0 [(0, .ref (z + 0)), (1, .ref (z + 186))] []
  refine am_aload_n F 1 dL_read_0 rfl rfl ?_
  refine am_iconst F (v := (0 : Int32)) dL_read_1 (by decide) ?_
  refine am_aload_n F 0 dL_read_2 rfl rfl ?_
  obtain ⟨o3, M2, h1, h⟩ := am_btE h
  refine am_tcallVi F [] lyk_0 (by decide) rfl cw_L_124 (c_X9_read l hls D E z  M o3 M2 h1) yn_X9_read rfl ⟨Nat.le_of_ble_eq_true rfl, Nat.le_of_ble_eq_true rfl⟩ rfl rfl (Nat.le_of_ble_eq_true rfl) ⟨Nat.le_of_ble_eq_true rfl, Nat.le_of_ble_eq_true rfl⟩ dL_read_3 rfl h (fun v4 h => ?_) (fun k6 h => ?_)
  · refine am_i2l F dL_read_6 ?_
    obtain ⟨q5, h⟩ := am_ciE h
    refine am_last F lyk_186 q5 dL_read_7 ?_
    refine am_goto F (tgt := 17) dL_read_8 (by decide) ?_
    refine am_iconst F (v := (0 : Int32)) dL_read_17 (by decide) ?_
    exact am_liret F hr ⟨Nat.le_of_ble_eq_true rfl, Nat.le_of_ble_eq_true rfl⟩ h dL_read_18
  · skip
    by_cases c7 : k6 = 2
    · have h := (if_pos c7).symm.trans h
      subst c7
      refine am_catch F hNC hT ⟨by decide, by decide⟩ [] ⟨0, 8, 11, 15⟩ [⟨0, 8, 14, 17⟩] rfl (fun z hz => nomatch hz) (by decide) (by decide) wd_673 nd_713 (fun q8 => ?_)
      refine am_astore_n F [(2, .ref q8), (0, .ref (z + 0)), (1, .ref (z + 186))] dL_read_11 rfl (by decide) rfl ?_
      refine am_iconst F (v := (1 : Int32)) dL_read_12 (by decide) ?_
      exact am_liret F hr ⟨Nat.le_of_ble_eq_true rfl, Nat.le_of_ble_eq_true rfl⟩ h dL_read_13
    · have h := (if_neg c7).symm.trans h
      by_cases c9 : k6 = 3
      · have h := (if_pos c9).symm.trans h
        subst c9
        refine am_catch F hNC hT ⟨by decide, by decide⟩ [⟨0, 8, 11, 15⟩] ⟨0, 8, 14, 17⟩ [] rfl (by
            intro z hz
            simp only [List.mem_cons, List.not_mem_nil, or_false] at hz
            rcases hz with rfl
            · exact ⟨by decide, 2, by decide, by decide, by decide, wd_673⟩) (by decide) (by decide) wd_674 nd_729 (fun q10 => ?_)
        refine am_astore_n F [(2, .ref q10), (0, .ref (z + 0)), (1, .ref (z + 186))] dL_read_14 rfl (by decide) rfl ?_
        refine am_iconst F (v := (2 : Int32)) dL_read_15 (by decide) ?_
        exact am_liret F hr ⟨Nat.le_of_ble_eq_true rfl, Nat.le_of_ble_eq_true rfl⟩ h dL_read_16
      · have h := (if_neg c9).symm.trans h
        cases h
/-! the law's errorPosition(LAisleScheduler;[J)I -/
abbrev rm_L_errorPosition : Room := { frames := 7, cells := 1, slots := 6, locals := 120 }
theorem yn_L_errorPosition : am_yn yL_errorPosition 2 := ⟨⟨by decide +kernel, by decide +kernel⟩, by decide +kernel⟩
def g_L_errorPosition  (M : am_M) : Option (Int32 × am_M) := (am_bt (g_X9_errorPosition  M) (fun v4 M2 => (am_ci (0 : Int32) 1 (some ((0 : Int32), (am_ls M2 186 (0 : Int32).toNatClampNeg (v4.toInt64)))))) (fun k6 M2 => (if k6 = 4 then (some ((1 : Int32), M2)) else none)))
set_option maxHeartbeats 4000000 in
set_option maxRecDepth 100000 in
theorem c_L_errorPosition (l : Launch) (hls : l.stackTraces = false) (D : va_G) (E : Nat → ClassId) (z : Nat)  (M : am_M) (r0 : Int32) (M1 : am_M) (h : g_L_errorPosition  M = some (r0, M1)) : am_Li l yL_errorPosition cL_errorPosition 3 (some .int) [(0, 8, 11, 41)] rm_L_errorPosition D E z [.ref (z + 0), .ref (z + 186)] M 1 6 r0 M1 := by
  unfold g_L_errorPosition at h
  refine am_lof (own := RL) (by decide +kernel) rfl (by exact Nat.le_of_ble_eq_true rfl) ?_
  intro p e s m args below meth c F hr hNC hT
  show am_W p l e rm_L_errorPosition s m args below meth c _ 3 D E z 0 0 M 0 [(0, .ref (z + 0)), (1, .ref (z + 186))] []
  refine am_aload_n F 1 dL_errorPosition_0 rfl rfl ?_
  refine am_iconst F (v := (0 : Int32)) dL_errorPosition_1 (by decide) ?_
  refine am_aload_n F 0 dL_errorPosition_2 rfl rfl ?_
  obtain ⟨o3, M2, h1, h⟩ := am_btE h
  refine am_tcallVi F [] lyk_0 (by decide) rfl cw_L_128 (c_X9_errorPosition l hls D E z  M o3 M2 h1) yn_X9_errorPosition rfl ⟨Nat.le_of_ble_eq_true rfl, Nat.le_of_ble_eq_true rfl⟩ rfl rfl (Nat.le_of_ble_eq_true rfl) ⟨Nat.le_of_ble_eq_true rfl, Nat.le_of_ble_eq_true rfl⟩ dL_errorPosition_3 rfl h (fun v4 h => ?_) (fun k6 h => ?_)
  · refine am_i2l F dL_errorPosition_6 ?_
    obtain ⟨q5, h⟩ := am_ciE h
    refine am_last F lyk_186 q5 dL_errorPosition_7 ?_
    refine am_goto F (tgt := 14) dL_errorPosition_8 (by decide) ?_
    refine am_iconst F (v := (0 : Int32)) dL_errorPosition_14 (by decide) ?_
    exact am_liret F hr ⟨Nat.le_of_ble_eq_true rfl, Nat.le_of_ble_eq_true rfl⟩ h dL_errorPosition_15
  · skip
    by_cases c7 : k6 = 4
    · have h := (if_pos c7).symm.trans h
      subst c7
      refine am_catch F hNC hT ⟨by decide, by decide⟩ [] ⟨0, 8, 11, 41⟩ [] rfl (fun z hz => nomatch hz) (by decide) (by decide) wd_847 nd_859 (fun q8 => ?_)
      refine am_astore_n F [(2, .ref q8), (0, .ref (z + 0)), (1, .ref (z + 186))] dL_errorPosition_11 rfl (by decide) rfl ?_
      refine am_iconst F (v := (1 : Int32)) dL_errorPosition_12 (by decide) ?_
      exact am_liret F hr ⟨Nat.le_of_ble_eq_true rfl, Nat.le_of_ble_eq_true rfl⟩ h dL_errorPosition_13
    · have h := (if_neg c7).symm.trans h
      cases h
/-! the law's restore(LAisleScheduler;[J)I -/
abbrev rm_L_restore : Room := { frames := 7, cells := 1, slots := 6, locals := 130 }
theorem yn_L_restore : am_yn yL_restore 2 := ⟨⟨by decide +kernel, by decide +kernel⟩, by decide +kernel⟩
def g_L_restore  (M : am_M) : Option (Int32 × am_M) := (am_bt (g_X9_restore  M) (fun v4 M2 => (am_ci (0 : Int32) 1 (some ((0 : Int32), (am_ls M2 186 (0 : Int32).toNatClampNeg (v4.toInt64)))))) (fun k6 M2 => (if k6 = 3 then (some ((1 : Int32), M2)) else none)))
set_option maxHeartbeats 4000000 in
set_option maxRecDepth 100000 in
theorem c_L_restore (l : Launch) (hls : l.stackTraces = false) (D : va_G) (E : Nat → ClassId) (z : Nat)  (M : am_M) (r0 : Int32) (M1 : am_M) (h : g_L_restore  M = some (r0, M1)) : am_Li l yL_restore cL_restore 3 (some .int) [(0, 8, 11, 17)] rm_L_restore D E z [.ref (z + 0), .ref (z + 186)] M 1 6 r0 M1 := by
  unfold g_L_restore at h
  refine am_lof (own := RL) (by decide +kernel) rfl (by exact Nat.le_of_ble_eq_true rfl) ?_
  intro p e s m args below meth c F hr hNC hT
  show am_W p l e rm_L_restore s m args below meth c _ 3 D E z 0 0 M 0 [(0, .ref (z + 0)), (1, .ref (z + 186))] []
  refine am_aload_n F 1 dL_restore_0 rfl rfl ?_
  refine am_iconst F (v := (0 : Int32)) dL_restore_1 (by decide) ?_
  refine am_aload_n F 0 dL_restore_2 rfl rfl ?_
  obtain ⟨o3, M2, h1, h⟩ := am_btE h
  refine am_tcallVi F [] lyk_0 (by decide) rfl cw_L_131 (c_X9_restore l hls D E z  M o3 M2 h1) yn_X9_restore rfl ⟨Nat.le_of_ble_eq_true rfl, Nat.le_of_ble_eq_true rfl⟩ rfl rfl (Nat.le_of_ble_eq_true rfl) ⟨Nat.le_of_ble_eq_true rfl, Nat.le_of_ble_eq_true rfl⟩ dL_restore_3 rfl h (fun v4 h => ?_) (fun k6 h => ?_)
  · refine am_i2l F dL_restore_6 ?_
    obtain ⟨q5, h⟩ := am_ciE h
    refine am_last F lyk_186 q5 dL_restore_7 ?_
    refine am_goto F (tgt := 14) dL_restore_8 (by decide) ?_
    refine am_iconst F (v := (0 : Int32)) dL_restore_14 (by decide) ?_
    exact am_liret F hr ⟨Nat.le_of_ble_eq_true rfl, Nat.le_of_ble_eq_true rfl⟩ h dL_restore_15
  · skip
    by_cases c7 : k6 = 3
    · have h := (if_pos c7).symm.trans h
      subst c7
      refine am_catch F hNC hT ⟨by decide, by decide⟩ [] ⟨0, 8, 11, 17⟩ [] rfl (fun z hz => nomatch hz) (by decide) (by decide) wd_674 nd_729 (fun q8 => ?_)
      refine am_astore_n F [(2, .ref q8), (0, .ref (z + 0)), (1, .ref (z + 186))] dL_restore_11 rfl (by decide) rfl ?_
      refine am_iconst F (v := (1 : Int32)) dL_restore_12 (by decide) ?_
      exact am_liret F hr ⟨Nat.le_of_ble_eq_true rfl, Nat.le_of_ble_eq_true rfl⟩ h dL_restore_13
    · have h := (if_neg c7).symm.trans h
      cases h
