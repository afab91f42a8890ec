/-! making objects and rows; the constructors' calls -/
theorem aq_arrV {cA : ClassId} {N : Nat} {f g : Nat → Value} (h : ∀ j, j < N → f j = g j) : arrV cA N f = arrV cA N g := by
  unfold arrV
  congr 1
  apply Array.ext
  · simp
  · intro i h1 h2
    simp at h1
    simp [h i h1]
theorem aq_cu_a {z : Nat} {E : Nat → ClassId} {M : am_M} {r t k : Nat} {u : List Nat} (ht : 20 ≤ t) : aq_cu z E M r u (t, k) = .inl (E t, (k, aq_av z M r k u t)) := by
  have : ¬ t < 20 := by omega
  simp [aq_cu, this]
section AQM
variable {p : Program} {l : Launch} {e : Env} {R : Room} {s : State} {m : MethodId} {args : Array Value} {below : List Frame} {meth : Method} {c : Code} {Q : State → Prop} {cc : ByteArray} {nL : Nat} {own : String} {D : va_G} {E : Nat → ClassId} {z cl sl : Nat} {M : am_M} {U : Nat → List Nat} {n pc : Nat} {lv lv' : List (Nat × Value)} {st : List Value}
theorem aq_new (F : am_F p s m args meth c cc nL own D E z) {C : String} {T : u_T} {N ci index : Nat} (hin : ∀ w ∈ u_ws C T N, w ∈ am_TB) (ty0 : Nat → FieldType) (hty : ∀ k, k < N → parseFieldDescriptor (T k).2.2.1 = some (ty0 k)) (hnm : ∀ a, a < N → ∀ b, b < N → a ≠ b → (T a).2.1 ≠ (T b).2.1) (hly : am_ly n = (ci, 0)) (hci : ci < 20) (hc : am_cl[ci]? = some (C, T, N)) (u : List Nat) (w1 : Cond.classLink own index C ∈ am_TB) (w2 : Cond.instantiable C N ∈ am_TB) (w3 : Cond.initialized C ∈ am_TB) (hdef : ∀ j, j < N → defaultValue (ty0 j) = vp_V (aq_mask (am_fs z M n ci) u) j) (hcs : cl + 1 ≤ R.cells ∧ sl + N ≤ R.slots) (d : decode cc pc = .ok (.new index, 3)) (k : aq_W p l e R s m args below meth c Q nL D E z (cl + 1) (sl + N) M (aq_up U n u) (n + 1) (pc + 3) lv (.ref (z + n) :: st)) : aq_W p l e R s m args below meth c Q nL D E z cl sl M U n pc lv st := by
  intro H locs ls hz hP hS hl
  have hK := F.2.2.2.2.2.1.1
  have hts := F.2.2.2.2.1
  have hKn := hK.1 ci _ hc
  refine W.newcK F.1 F.2.1 F.2.2.2.1 (hts _ w1) (hts _ w2) (hts _ w3) rfl d hcs.1 hcs.2 hKn.2.1 hz fun H1 kC hkC e1 z1 o1 => ?_
  have o2 : ∀ q : Nat, q < H.size → H1[q]? = H[q]? := fun q hq => o1 q (by rw [← hz]; exact hq)
  refine k H1 locs ls (by rw [z1]; omega) (aq_push hP hz o2 (x := .inr (ci, aq_mask (am_fs z M n ci) u)) ⟨_, hc, (u_born ty0 hts hin hKn hkC e1 hty).to hdef⟩ (by rw [aq_up_s, hly]; simp [aq_cu, hci]) (fun a ha => aq_up_n (by omega))) ⟨Nat.le_trans hS.1 (by omega), fun x h1 h2 => (o2 x (Nat.lt_of_lt_of_le h1 hS.1)).trans (hS.2.1 x h1 h2), hS.2.2⟩ hl
theorem aq_newa (F : am_F p s m args meth c cc nL own D E z) {atype : ArrayType} {ty : FieldType} {x : Int32} {tag len : Nat} (t0 : Nat) (hly : am_ly n = (tag, len)) (htg : 20 ≤ tag) (hty : newarray.typeOf atype = ty) (hU : U n = []) (w : Cond.arrayClass ty ∈ am_TB) (ht : (am_tys E)[t0]? = some (E tag, ty)) (hRA : ∀ cA, va_RA s cA ty → s.vm.findClass ("[" ++ ty.toString) = some cA) (hcell : vp_cell (E tag) (len, am_av z M n tag) = arrV (E tag) len (fun _ => defaultValue ty)) (hav : aq_av z M n len [] tag = am_av z M n tag) (hn : ¬ x < 0) (hN : x.toNatClampNeg = len) (hby : len * componentBytes ty ≤ 536870912) (hcs : cl + 1 ≤ R.cells ∧ sl + len ≤ R.slots) (d : decode cc pc = .ok (.newarray atype, 2)) (k : aq_W p l e R s m args below meth c Q nL D E z (cl + 1) (sl + len) M U (n + 1) (pc + 2) lv (.ref (z + n) :: st)) : aq_W p l e R s m args below meth c Q nL D E z cl sl M U n pc lv (.int x :: st) := by
  intro H locs ls hz hP hS hl
  have hK := F.2.2.2.2.2.1.1
  have hts := F.2.2.2.2.1
  subst hty
  refine va_newaK F.1 F.2.1 (hts _ w) rfl d rfl hn hN hby hcs.1 hcs.2 hz fun H1 cA e1 z1 o1 hAr hNm => ?_
  have hcA : cA = E tag := Option.some.inj (hNm.symm.trans (hRA _ (hK.2 t0 _ ht).2))
  subst hcA
  have o2 : ∀ q : Nat, q < H.size → H1[q]? = H[q]? := fun q hq => o1 q (by rw [← hz]; exact hq)
  refine k H1 locs ls (by rw [z1]; omega) (aq_push (U' := U) hP hz o2 (x := .inl (E tag, (len, am_av z M n tag))) (by show H1[z + n]? = some (vp_cell _ _); rw [hcell]; exact e1) (by rw [hU, hly, aq_cu_a htg, hav]) (fun a _ => rfl)) ⟨Nat.le_trans hS.1 (by omega), fun x h1 h2 => (o2 x (Nat.lt_of_lt_of_le h1 hS.1)).trans (hS.2.1 x h1 h2), hS.2.2⟩ hl
theorem aq_anew (F : am_F p s m args meth c cc nL own D E z) {C : String} {index : Nat} {x : Int32} {tag len : Nat} (t0 : Nat) (hly : am_ly n = (tag, len)) (htg : tag = 22 ∨ tag = 23) (u : List Nat) (hu : u.length = len) (w : Cond.classLink own index C ∈ am_TB) (hAO : va_AO C s) (ht : (am_tys E)[t0]? = some (E tag, .object C)) (hn : ¬ x < 0) (hN : x.toNatClampNeg = len) (hby : len * 4 ≤ 536870912) (hcs : cl + 1 ≤ R.cells ∧ sl + len ≤ R.slots) (d : decode cc pc = .ok (.anewarray index, 3)) (k : aq_W p l e R s m args below meth c Q nL D E z (cl + 1) (sl + len) M (aq_up U n u) (n + 1) (pc + 3) lv (.ref (z + n) :: st)) : aq_W p l e R s m args below meth c Q nL D E z cl sl M U n pc lv (.int x :: st) := by
  intro H locs ls hz hP hS hl
  have hK := F.2.2.2.2.2.1.1
  have hts := F.2.2.2.2.1
  subst hN
  refine W.anew F.1 F.2.1 F.2.2.2.1 (hts _ w) (va_AO.use hAO) rfl d rfl hn hby hcs.1 hcs.2 fun cA kA comp f1 f2 f3 f4 => ?_
  obtain ⟨kA2, comp2, g1, g2, g3, g4⟩ := (hK.2 t0 _ ht).2
  have hcA : cA = E tag := Option.some.inj (f1.symm.trans g4)
  subst hcA
  generalize hH1 : H.push ({ cls := E tag, slots := Array.replicate x.toNatClampNeg .null, vm := .none } : Cell) = H1
  have z1 : H1.size = H.size + 1 := by rw [← hH1, Array.size_push]
  have e1 : H1[H.size]? = some (arrV (E tag) x.toNatClampNeg (fun _ => .null)) := by rw [← hH1, Array.getElem?_push_size, ← arrV_new]
  have o2 : ∀ q : Nat, q < H.size → H1[q]? = H[q]? := fun q hq => by rw [← hH1, Array.getElem?_push, if_neg (Nat.ne_of_lt hq)]
  have hk := k H1 locs ls (by rw [z1]; omega) (aq_push hP hz o2 (U' := aq_up U n u) (x := .inl (E tag, (x.toNatClampNeg, aq_av z M n x.toNatClampNeg u tag))) (by
    show H1[z + n]? = some (vp_cell _ _)
    rw [← hz, e1]
    congr 1
    rcases htg with rfl | rfl
    · show _ = arrV (E 22) x.toNatClampNeg (fun j => va_rf (if x.toNatClampNeg ≤ j + u.length ∧ j < x.toNatClampNeg then none else some (z + (n + 8 + 5 * j))))
      refine (aq_arrV (fun j hj => ?_)).symm
      have : x.toNatClampNeg ≤ j + u.length ∧ j < x.toNatClampNeg := by omega
      rw [if_pos this]; rfl
    · show _ = arrV (E 23) x.toNatClampNeg (fun j => va_rf (if x.toNatClampNeg ≤ j + u.length ∧ j < x.toNatClampNeg then none else some (z + (n + 32 + j))))
      refine (aq_arrV (fun j hj => ?_)).symm
      have : x.toNatClampNeg ≤ j + u.length ∧ j < x.toNatClampNeg := by omega
      rw [if_pos this]; rfl) (by rw [aq_up_s, hly]; rcases htg with rfl | rfl <;> simp [aq_cu]) (fun a ha => aq_up_n (by omega))) ⟨Nat.le_trans hS.1 (by omega), fun x h1 h2 => (o2 x (Nat.lt_of_lt_of_le h1 hS.1)).trans (hS.2.1 x h1 h2), hS.2.2⟩ hl
  rw [← hz] at hk
  exact hk
theorem aq_aast (F : am_F p s m args meth c cc nL own D E z) {tag len r v ci : Nat} {T : u_T} {C : String} {N : Nat} {i : Int32} (t0 : Nat) (rest : List Nat) (hly : am_ly r = (tag, len)) (hr : r < n) (hlv : am_ly v = (ci, 0)) (hv : v < n) (hci : ci < 20) (hc : am_cl[ci]? = some (C, T, N)) (htg : (tag = 22 ∧ v = r + 8 + 5 * i.toNatClampNeg) ∨ (tag = 23 ∧ v = r + 32 + i.toNatClampNeg)) (ht : (am_tys E)[t0]? = some (E tag, .object C)) (hUr : (U r).length = rest.length + 1) (hi : i.toNatClampNeg + (rest.length + 1) = len) (hin : vp_in i len) (d : decode cc pc = .ok (.aastore, 1)) (k : aq_W p l e R s m args below meth c Q nL D E z cl sl M (aq_up U r rest) n (pc + 1) lv st) : aq_W p l e R s m args below meth c Q nL D E z cl sl M U n pc lv (.ref (z + v) :: .int i :: .ref (z + r) :: st) := by
  intro H locs ls hz hP hS hl
  have hK := F.2.2.2.2.2.1.1
  have hlt : i.toNatClampNeg < len := Nat.not_le.mp fun q => hin (Or.inr q)
  have h0 : ¬ i < 0 := fun q => hin (Or.inl q)
  have htg2 : 20 ≤ tag := by rcases htg with ⟨h, _⟩ | ⟨h, _⟩ <;> omega
  have ha := aq_arr (z := z) (E := E) (M := M) (U := U) hly htg2 hr
  obtain ⟨r', hr', cellV, g1, g2, g3, -⟩ := hP v _ (aq_obj (z := z) (E := E) (M := M) (U := U) hlv hci hv)
  have hr9 : r' = (C, T, N) := Option.some.inj (hr'.symm.trans hc)
  subst hr9
  have hcls := (hK.1 ci _ hc).2
  obtain ⟨kA, comp, k1, k2, k3, -⟩ := (hK.2 t0 _ ht).2
  have hcomp : comp = D.1 ci := Option.some.inj (k3.symm.trans hcls.1)
  subst hcomp
  obtain ⟨kC, hkC, -⟩ := hcls.2
  have hcl2 : (vp_cell (E tag) (len, aq_av z M r len (U r) tag)).cls = E tag := by rcases htg with ⟨rfl, _⟩ | ⟨rfl, _⟩ <;> rfl
  have hsz : (vp_cell (E tag) (len, aq_av z M r len (U r) tag)).slots.size = len := by rcases htg with ⟨rfl, _⟩ | ⟨rfl, _⟩ <;> exact arrV_size _ _ _
  have hvm2 : (vp_cell (E tag) (len, aq_av z M r len (U r) tag)).vm = .none := by rcases htg with ⟨rfl, _⟩ | ⟨rfl, _⟩ <;> rfl
  refine W.aast F.1 F.2.1 (hP r _ ha) (fun q h => by rw [hvm2] at h; cases h) (fun h => by rw [hvm2] at h; cases h) (by rw [hcl2]; exact k1) k2 rfl hkC ⟨h0, by rw [hsz]; exact hlt⟩ g1 (fun q h => by rw [g3] at h; cases h) (by rw [g2]; exact hkC) (by rw [g2]; exact va_assign hcls) rfl rfl d fun H1 e z1 oq => ?_
  have hP1 := hP.set (e := .inl (E tag, (len, aq_av z M r len rest tag))) aq_D ha (by
    show H1[z + r]? = some (vp_cell _ _)
    rw [e]
    congr 1
    rcases htg with ⟨rfl, h9⟩ | ⟨rfl, h9⟩
    · show Cell.setSlot (arrV (E 22) len (fun j => va_rf (if len ≤ j + (U r).length ∧ j < len then none else some (z + (r + 8 + 5 * j))))) i.toNatClampNeg (.ref (z + v)) = arrV (E 22) len (fun j => va_rf (if len ≤ j + rest.length ∧ j < len then none else some (z + (r + 8 + 5 * j))))
      rw [arrV_store]
      refine aq_arrV (fun j hj => ?_)
      by_cases hq : j = i.toNatClampNeg
      · subst hq
        have h7 : ¬ (len ≤ i.toNatClampNeg + rest.length ∧ i.toNatClampNeg < len) := by omega
        simp only [updV, if_true, if_neg h7, va_rf, h9]
      · have h7 : (len ≤ j + (U r).length ∧ j < len) ↔ (len ≤ j + rest.length ∧ j < len) := by omega
        simp only [updV, hq, if_false]
        by_cases h8 : len ≤ j + rest.length ∧ j < len
        · rw [if_pos h8, if_pos (h7.mpr h8)]
        · rw [if_neg h8, if_neg (fun q => h8 (h7.mp q))]
    · show Cell.setSlot (arrV (E 23) len (fun j => va_rf (if len ≤ j + (U r).length ∧ j < len then none else some (z + (r + 32 + j))))) i.toNatClampNeg (.ref (z + v)) = arrV (E 23) len (fun j => va_rf (if len ≤ j + rest.length ∧ j < len then none else some (z + (r + 32 + j))))
      rw [arrV_store]
      refine aq_arrV (fun j hj => ?_)
      by_cases hq : j = i.toNatClampNeg
      · subst hq
        have h7 : ¬ (len ≤ i.toNatClampNeg + rest.length ∧ i.toNatClampNeg < len) := by omega
        simp only [updV, if_true, if_neg h7, va_rf, h9]
      · have h7 : (len ≤ j + (U r).length ∧ j < len) ↔ (len ≤ j + rest.length ∧ j < len) := by omega
        simp only [updV, hq, if_false]
        by_cases h8 : len ≤ j + rest.length ∧ j < len
        · rw [if_pos h8, if_pos (h7.mpr h8)]
        · rw [if_neg h8, if_neg (fun q => h8 (h7.mp q))]) oq
  rw [aq_set (M' := M) (U' := aq_up U r rest) hr (by rw [hly, aq_up_s, aq_cu_a htg2]) (fun a _ ha => by rw [aq_up_n ha])] at hP1
  exact k H1 _ ls (by rw [z1]; exact hz) hP1 (hS.put z1 oq (aq_D.2 r _ ha)) hl
theorem aq_objInit (F : am_F p s m args meth c cc nL own D E z) {i a : Nat} (w : Cond.methodLink own i Lib.objectInit ∈ am_TB) (hfr : 1 ≤ R.frames) (hlo : (st.map fun v => v.category).sum + 12 ≤ R.locals) (d : decode cc pc = .ok (.invokespecial i, 3)) (k : aq_W p l e R s m args below meth c Q nL D E z cl sl M U n (pc + 3) lv st) : aq_W p l e R s m args below meth c Q nL D E z cl sl M U n pc lv (.ref a :: st) := fun H locs ls hz hP hS hl => W.objInit F.1 F.2.1 F.2.2.2.1 (F.2.2.2.2.1 _ w) (F.2.2.2.2.1 _ (am_tb1 32 (by decide +kernel) (by decide +kernel))) (F.2.2.2.2.1 _ (am_tb1 33 (by decide +kernel) (by decide +kernel))) rfl (hl.1.trans F.2.2.1.symm) rfl d hfr (by show 2 * 0 + _ + _ ≤ _; omega) (k H locs ls hz hP hS hl)
abbrev aq_Mc (l : Launch) (y : MethodName) (b : ByteArray) (maxL : Nat) (rm : Room) (D : va_G) (E : Nat → ClassId) (z : Nat) (av : List Value) (M : am_M) (U : Nat → List Nat) (n : Nat) (mc ms : Nat) (M1 : am_M) (U1 : Nat → List Nat) (n1 : Nat) : Prop := Met l y (am_ws y b maxL none) rm (va_Pc av (aq_BP z E D M U n)) (va_Qv (fun _ : Unit => True) (fun _ t => aq_BQ z E D M1 U1 n1 t) (fun q => z ≤ q)) mc ms (fun q => z ≤ q)
def aq_CI (own : String) (i : Nat) (y : MethodName) (b : ByteArray) (n : Nat) : Prop := Cond.methodLink own i y ∈ am_TB ∧ Cond.instanceMethod y ∈ am_TB ∧ Cond.initialized y.cls ∈ am_TB ∧ Cond.code y b n none ∈ am_TB ∧ y.name = "<init>"
def aq_CIN (own : String) (i : Nat) (host : String) (y : MethodName) (b : ByteArray) (n : Nat) : Prop := Cond.methodLinkNest own i y host ∈ am_NB ∧ Cond.instanceMethod y ∈ am_TB ∧ Cond.initialized y.cls ∈ am_TB ∧ Cond.code y b n none ∈ am_TB ∧ y.name = "<init>"
theorem aq_callI (F : am_F p s m args meth c cc nL own D E z) (hAO : aq_AO s) {y : MethodName} {b : ByteArray} {k0 maxL : Nat} {rm : Room} (As : List Value) {i mc ms a : Nat} {M1 : am_M} {U1 : Nat → List Nat} {n1 : Nat} (cw : aq_CI own i y b maxL) (hM : aq_Mc l y b maxL rm D E z (.ref a :: As) M U n mc ms M1 U1 n1) (hy : am_yn y k0) (hn : As.length = k0) (hR : rm.frames + 1 ≤ R.frames ∧ 8 + (maxL + 11) + rm.locals ≤ R.locals) (hrc : rm.cells = mc) (hrs : rm.slots = ms) (hst : (st.map fun v => v.category).sum ≤ 8) (hcs : cl + mc ≤ R.cells ∧ sl + ms ≤ R.slots) (d : decode cc pc = .ok (.invokespecial i, 3)) {st0 : List Value} (hs0 : st0 = As.reverse ++ .ref a :: st) (k : aq_W p l e R s m args below meth c Q nL D E z (cl + mc) (sl + ms) M1 U1 n1 (pc + 3) lv st) : aq_W p l e R s m args below meth c Q nL D E z cl sl M U n pc lv st0 := by
  subst hs0
  exact fun H locs ls hz hP hS hl => va_callv (va_runI (As := As) (rest := st) ⟨F.1, F.2.1, F.2.2.1, F.2.2.2.1, F.2.2.2.2.1⟩ hM (cwI k0 F.2.2.2.2.1 (am_gi (am_inws cw.2.2.2.1)) rfl hrc hrs (F.2.2.2.2.1 _ cw.2.2.1) (F.2.2.2.2.1 _ cw.1) (F.2.2.2.2.1 _ cw.2.1) cw.2.2.2.2 ⟨hy.1.1, hy.1.2, hy.2⟩ hR) ⟨aq_blind, fun S hU hW => ⟨rfl, by rw [hU]; exact hz, by rw [hU]; exact hP, F.2.2.2.2.2.1.move hU hW hS, hAO.moved hW.alike⟩⟩ rfl hn hl.1 rfl (by simpa using hst) d hcs) hS (fun q _ h => h) (fun q h => h) (fun u t H1 locs1 ht _ _ hb _ _ hS1 => k H1 locs1 ls (by rw [← ht]; exact hb.1) (by rw [← ht]; exact hb.2) hS1 hl)
theorem aq_callIN (F : am_F p s m args meth c cc nL own D E z) (hAO : aq_AO s) {host : String} {y : MethodName} {b : ByteArray} {k0 maxL : Nat} {rm : Room} (As : List Value) {i mc ms a : Nat} {M1 : am_M} {U1 : Nat → List Nat} {n1 : Nat} (cw : aq_CIN own i host y b maxL) (hM : aq_Mc l y b maxL rm D E z (.ref a :: As) M U n mc ms M1 U1 n1) (hy : am_yn y k0) (hn : As.length = k0) (hR : rm.frames + 1 ≤ R.frames ∧ 8 + (maxL + 11) + rm.locals ≤ R.locals) (hrc : rm.cells = mc) (hrs : rm.slots = ms) (hst : (st.map fun v => v.category).sum ≤ 8) (hcs : cl + mc ≤ R.cells ∧ sl + ms ≤ R.slots) (d : decode cc pc = .ok (.invokespecial i, 3)) {st0 : List Value} (hs0 : st0 = As.reverse ++ .ref a :: st) (k : aq_W p l e R s m args below meth c Q nL D E z (cl + mc) (sl + ms) M1 U1 n1 (pc + 3) lv st) : aq_W p l e R s m args below meth c Q nL D E z cl sl M U n pc lv st0 := by
  subst hs0
  exact fun H locs ls hz hP hS hl => va_callv (va_runIN (As := As) (rest := st) ⟨F.1, F.2.1, F.2.2.1, F.2.2.2.1, F.2.2.2.2.1⟩ hM ⟨va_cnB k0 F.2.2.2.2.1 (am_gi (am_inws cw.2.2.2.1)) rfl hrc hrs (F.2.2.2.2.2.1.2.1 _ cw.1) (F.2.2.2.2.1 _ cw.2.2.1) ⟨hy.1.1, hy.1.2, hy.2⟩ hR, cw.2.2.2.2, F.2.2.2.2.1 _ cw.2.1⟩ ⟨aq_blind, fun S hU hW => ⟨rfl, by rw [hU]; exact hz, by rw [hU]; exact hP, F.2.2.2.2.2.1.move hU hW hS, hAO.moved hW.alike⟩⟩ rfl hn hl.1 rfl (by simpa using hst) d hcs) hS (fun q _ h => h) (fun q h => h) (fun u t H1 locs1 ht _ _ hb _ _ hS1 => k H1 locs1 ls (by rw [← ht]; exact hb.1) (by rw [← ht]; exact hb.2) hS1 hl)
theorem aq_vret {mcF msF : Nat} {M1 : am_M} {U1 : Nat → List Nat} {n1 : Nat} (F : am_F p s m args meth c cc nL own D E z) (hr : meth.sig.returnType = none) (hcF : cl ≤ mcF ∧ sl ≤ msF) (hM : M = M1) (hU : U = U1) (hn : n = n1) (d : decode cc pc = .ok (.return_, 1)) : aq_W p l e R s m args below meth c (MQ below (va_Qv (fun _ : Unit => True) (fun _ t => aq_BQ z E D M1 U1 n1 t) (fun q => z ≤ q)) args s mcF msF (fun q => z ≤ q)) nL D E z cl sl M U n pc lv [] := by
  subst hM; subst hU; subst hn
  exact fun H locs ls hz hP hS hl => W.widen hcF.1 hcF.2 (W.vret F.1 F.2.1 hr (fun t ht hW => ⟨⟨(), rfl, trivial, by rw [ht]; exact hz, by rw [ht]; exact hP⟩, hS.F ht⟩) hS.2.2 d F.2.2.2.2.2.2)
theorem aq_of {y : MethodName} {b : ByteArray} {maxL : Nat} {ret : Option FieldType} {rm : Room} {Qc : Array Value → State → Outcome → State → Prop} {av : List Value} {mc ms : Nat} (hy : plainName y.cls = true) (hyo : y.cls = own) (hlen : (lg_sl av).length ≤ maxL)
    (body : ∀ (p : Program) (e : Env) (s : State) (m : MethodId) (args : Array Value) (below : List Frame) (meth : Method) (c : Code), am_F p s m args meth c b maxL own D E z → meth.sig.returnType = ret → meth.name = y.name → aq_AO s → s.heap.size = z + n → aq_W p l e rm s m args below meth c (MQ below Qc args s mc ms (fun q => z ≤ q)) maxL D E z 0 0 M U n 0 (lv_args 0 av) []) : Met l y (am_ws y b maxL ret) rm (va_Pc av (aq_BP z E D M U n)) Qc mc ms (fun q => z ≤ q) := by
  refine Met.ofW (cc := b) (maxL := maxL) (ret := ret) hy rfl ?_
  intro p e s m args below meth c s₁ B hml hv
  obtain ⟨rfl, hz, hP, hT, hAO⟩ := hv
  have hts := atoms_spec (ws := am_ws y b maxL ret) B.pre
  have hown : s.vm.findClass own = some m.cls := by rw [← hyo]; exact findClass_of_methodNamed B.named
  have hl := lv_entry av (n := maxL) hlen
  have hF : am_F p s m av.toArray meth c b maxL own D E z := ⟨B.exec, B.bytes, hml, hown, fun w hw => hts w (List.mem_cons_of_mem _ hw), hT, B.notSynchronized⟩
  rw [lg_entry_eq]
  exact body p e s m av.toArray below meth c hF B.returns (name_of_methodNamed B.named B.method).1 hAO hz s.heap [] _ hz hP va_S.rf hl
end AQM
