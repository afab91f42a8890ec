/-! 'throw new NoSuchElementException("text")' -/
def am_XT4 (own : String) (ik is ic : Nat) (text : String) : Prop := Cond.classLink own ik am_N ∈ am_TB ∧ Cond.initialized am_N ∈ am_TB ∧ (own, is, text) ∈ am_SR ∧ (∀ w ∈ am_o4 own ic, w ∈ am_TB ∨ w ∈ am_NB) ∧ (Cond.classLink own ik am_N :: Cond.initialized am_N :: am_o4 own ic).all vx_ot = true
section AMN2
variable {p : Program} {l : Launch} {e : Env} {R : Room} {s : State} {m : MethodId} {args : Array Value} {below : List Frame} {meth : Method} {c : Code} {cc : ByteArray} {nL : Nat} {own : String} {D : va_G} {E : Nat → ClassId} {z cl sl : Nat} {M : am_M} {pc : Nat} {lv : List (Nat × Value)} {st : List Value}
set_option maxHeartbeats 1000000 in
theorem am_throw4 {γ : Type} {oF : γ ⊕ Nat} {MF : am_M} {QF : Array Value → State → Outcome → State → Prop} {mcF msF : Nat} (F : am_F p s m args meth c cc nL own D E z) (ht0 : ∀ x ∈ c.exceptionTable.toList, False) (hls : l.stackTraces = false) {ik is ic : Nat} {text : String} (cw : am_XT4 own ik is ic text) (hR : 5 < R.frames ∧ (st.map fun v => v.category).sum + 82 ≤ R.locals ∧ cl + 1 ≤ R.cells ∧ sl + 6 ≤ R.slots) (hcF : cl + 1 ≤ mcF ∧ sl + 6 ≤ msF) (h : some ((.inr 4 : γ ⊕ Nat), M) = some (oF, MF)) (d0 : decode cc pc = .ok (.new ik, 3)) (d3 : decode cc (pc + 3) = .ok (.dup, 1)) (d4 : decode cc (pc + 4) = .ok (.ldc is, 2)) (d6 : decode cc (pc + 6) = .ok (.invokespecial ic, 3)) (d9 : decode cc (pc + 9) = .ok (.athrow, 1)) : am_W p l e R s m args below meth c (vx_MQ below QF (am_XC z E D oF MF) args s mcF msF (fun q => z ≤ q)) nL D E z cl sl M pc lv st := by
  obtain ⟨rfl, rfl⟩ : .inr 4 = oF ∧ M = MF := by cases h; exact ⟨rfl, rfl⟩
  intro H locs ls hP hS hl T hT X
  obtain ⟨c1, c2, c3, c4, c5⟩ := cw
  obtain ⟨hU, hN, hR9⟩ := F.2.2.2.2.2.1.2.2
  obtain ⟨sa, hsa⟩ := hR9 _ c3
  have hexec := F.1
  have hb := F.2.1
  have hown := F.2.2.2.1
  have hgood : ∀ w ∈ Cond.classLink own ik am_N :: Cond.initialized am_N :: am_o4 own ic, vx_ot w = true := fun w hw => List.all_eq_true.mp c5 w hw
  have hat : ∀ w ∈ am_o4 own ic, w.before args s = true := fun w hw => (c4 w hw).elim (fun g => F.2.2.2.2.1 _ g) (fun g => am_nb_use (List.mem_filter.mp g).2 (F.2.2.2.2.2.1.2.1 _ g))
  have htr : e.platform.stackTraces = false := (show e.platform.stackTraces = l.stackTraces by rw [X.admits.platform]).trans hls
  have Y := vx_rebase X (R' := { frames := R.frames, locals := R.locals, cells := 1, slots := 6 }) (Nat.le_refl _) (Nat.le_refl _) hR.2.2.1 hR.2.2.2
  obtain ⟨s', hA⟩ : ∃ z, z = (T.setVm s.vm).setFrames (.invoking m args :: below) := ⟨_, rfl⟩
  rw [← hA] at Y
  have hvm : s'.vm = s.vm := by rw [hA]; rfl
  have hhp : s'.heap = H := by rw [hA]; exact hT
  have hW0 : s.WarmedH s'.vm := by rw [hvm]; exact State.WarmedH.refl s
  have hat' : ∀ w ∈ am_o4 own ic, w.before args s' = true := fun w hw => vx_ot_at hW0 hvm.symm (hgood w (List.mem_cons_of_mem _ (List.mem_cons_of_mem _ hw))) (hat w hw)
  have hk' : (Cond.classLink own ik am_N).before args s' = true := vx_ot_at hW0 hvm.symm (hgood _ List.mem_cons_self) (F.2.2.2.2.1 _ c1)
  have hini' : (Cond.initialized am_N).before args s' = true := vx_ot_at hW0 hvm.symm (hgood _ (List.mem_cons_of_mem _ List.mem_cons_self)) (F.2.2.2.2.1 _ c2)
  have hU' : vx_Zq Bundle.tN "UNASSIGNED_STACK" Bundle.steD (fun q => z ≤ q) s' s'.heap := by rw [hhp]; exact vx_Zq.moved hW0.alike (hU.kept hS.2.1)
  have hN' : vx_Zq Bundle.tN "SUPPRESSED_SENTINEL" Bundle.listD (fun q => z ≤ q) s' s'.heap := by rw [hhp]; exact vx_Zq.moved hW0.alike (hN.kept hS.2.1)
  have h : ∀ w ∈ am_oall own ic, w.before args s' = true := vx_own hat' (vx_isRefq hU'.1) (vx_isRefq hN'.1) hU'.2.word hN'.2.word
  have hown' : s'.vm.findClass own = some m.cls := by rw [hvm]; exact hown
  have hins : (Cond.instantiable am_N 6).before args s' = true := h _ (List.mem_append_right _ (by simp [am_oth]))
  obtain ⟨vm₁, cX, kX, hfX, hkX, -, -, X₁, st1⟩ := Y.newCold hexec (own := own) (C := am_N) (index := ik) (n := 6) hown' hk' hins hini'
    (g := F0 m pc ls st) rfl (by rw [hb]; exact d0) (Nat.le_refl _) (Nat.le_refl _)
  generalize hT1 : (T.setVm vm₁).pushCell { cls := cX, slots := kX.instanceTypes.map defaultValue, vm := .none } = T1 at X₁ st1
  have hcat : (Value.ref T.heap.size).category = 1 := rfl
  have hcellA : T1.heap[T.heap.size]? = some (freshCell cX kX) := by rw [← hT1]; exact State.heap_pushCell_size _ _
  have d3' : decode c.code (pc + 3) = .ok (.dup, 1) := by rw [hb]; exact d3
  have d4' : decode c.code (pc + 4) = .ok (.ldc is, 2) := by rw [hb]; exact d4
  have hstr' : vk_R own is text sa s' := vk_R.warm hW0 hsa
  obtain ⟨U, hsteps, hrun, hend, hW, hsame, ce, hce, hO, hOc⟩ := am_ctor4 X₁ hexec htr (own := own) (ic := ic) hown' h (fun x hx => nomatch hx) hfX hkX hcellA (by rw [hhp, hT]; exact Nat.le_refl _) (msg := .ref sa) rfl
    (g := { method := m, pc := pc + 6, locals := ls, stack := .ref sa :: .ref T.heap.size :: .ref T.heap.size :: st, locked := none }) rfl (hl.1.trans F.2.2.1.symm) rfl rfl (rest := st) rfl
    (by rw [hb]; exact d6) (by rw [hb]; exact d9) (fun x hx => (ht0 x hx).elim) hR.1 (by have := hR.2.1; simp only [List.map_cons, List.sum_cons, hcat]; show 2 * 0 + _ + _ ≤ _; omega) F.2.2.2.2.2.2
  obtain ⟨f1, f2⟩ := vx_frame hsame
  rw [hhp] at f1 f2
  have hWs : s.WarmedH U.vm := State.WarmedH.trans hW0 hW
  have hcl : s.vm.findClass am_N = some ce.cls := by
    rw [hvm] at hOc
    exact hOc
  have hall : s.sameButNew ({ U with vm := s.vm } : State) locs mcF msF := by
    subst hA
    obtain ⟨e1, e2⟩ := hsame
    rw [State.setFrames_setFrames] at e1
    have h2 : (T.setVm s.vm).sameButNew ({ U with vm := s.vm } : State) [] (0 + 1) (0 + 6) := ⟨e1, e2⟩
    have h3 := X.same.trans h2
    rw [List.append_nil] at h3
    exact h3.mono hcF.1 hcF.2
  have hk : ∀ q : Nat, q < H.size → U.heap[q]? = H[q]? := fun q hq => f2 q hq (fun z hz => nomatch hz)
  refine ⟨U, ?_, .threw T.heap.size, hrun, hend, Or.inr ⟨T.heap.size, rfl, am_N, ce, locs, ⟨4, rfl, ⟨rfl, am_keep hP hk⟩, ⟨Nat.le_trans hS.1 f1, fun q hq hA => by rw [hk q (Nat.lt_of_lt_of_le hq hS.1)]; exact hS.2.1 q hq hA⟩⟩, hce, hO, hcl, hWs, hall, hS.2.2⟩⟩
  refine st1 _ ?_
  show Steps p.tables e below (T1.setTop { method := m, pc := pc + 3, locals := ls, stack := .ref T.heap.size :: st, locked := none }) _
  jvm_step X₁.here [X₁.here.top, hexec, d3', Value.category]
  exact X₁.ldcString hexec (own := own) (text := text) (index := is) (a := sa) hown' hstr'.1 hstr'.2
    (g := { method := m, pc := pc + 4, locals := ls, stack := .ref T.heap.size :: .ref T.heap.size :: st, locked := none }) rfl d4' _ hsteps
set_option maxHeartbeats 1000000 in
theorem am_throw4W {γ : Type} {oF : γ ⊕ Nat} {MF : am_M} {QF : Array Value → State → Outcome → State → Prop} {mcF msF : Nat} (F : am_F p s m args meth c cc nL own D E z) (ht0 : ∀ x ∈ c.exceptionTable.toList, False) (hls : l.stackTraces = false) {ik is ic : Nat} {text : String} (cw : am_XT4 own ik is ic text) (hR : 5 < R.frames ∧ (st.map fun v => v.category).sum + 82 ≤ R.locals ∧ cl + 1 ≤ R.cells ∧ sl + 6 ≤ R.slots) (hcF : cl + 1 ≤ mcF ∧ sl + 6 ≤ msF) (h : some ((.inr 4 : γ ⊕ Nat), M) = some (oF, MF)) (d0 : decode cc pc = .ok (.new ik, 3)) (d3 : decode cc (pc + 3) = .ok (.dup, 1)) (d4 : decode cc (pc + 4) = .ok (.ldc_w is, 3)) (d6 : decode cc (pc + 7) = .ok (.invokespecial ic, 3)) (d9 : decode cc (pc + 10) = .ok (.athrow, 1)) : am_W p l e R s m args below meth c (vx_MQ below QF (am_XC z E D oF MF) args s mcF msF (fun q => z ≤ q)) nL D E z cl sl M pc lv st := by
  obtain ⟨rfl, rfl⟩ : .inr 4 = oF ∧ M = MF := by cases h; exact ⟨rfl, rfl⟩
  intro H locs ls hP hS hl T hT X
  obtain ⟨c1, c2, c3, c4, c5⟩ := cw
  obtain ⟨hU, hN, hR9⟩ := F.2.2.2.2.2.1.2.2
  obtain ⟨sa, hsa⟩ := hR9 _ c3
  have hexec := F.1
  have hb := F.2.1
  have hown := F.2.2.2.1
  have hgood : ∀ w ∈ Cond.classLink own ik am_N :: Cond.initialized am_N :: am_o4 own ic, vx_ot w = true := fun w hw => List.all_eq_true.mp c5 w hw
  have hat : ∀ w ∈ am_o4 own ic, w.before args s = true := fun w hw => (c4 w hw).elim (fun g => F.2.2.2.2.1 _ g) (fun g => am_nb_use (List.mem_filter.mp g).2 (F.2.2.2.2.2.1.2.1 _ g))
  have htr : e.platform.stackTraces = false := (show e.platform.stackTraces = l.stackTraces by rw [X.admits.platform]).trans hls
  have Y := vx_rebase X (R' := { frames := R.frames, locals := R.locals, cells := 1, slots := 6 }) (Nat.le_refl _) (Nat.le_refl _) hR.2.2.1 hR.2.2.2
  obtain ⟨s', hA⟩ : ∃ z, z = (T.setVm s.vm).setFrames (.invoking m args :: below) := ⟨_, rfl⟩
  rw [← hA] at Y
  have hvm : s'.vm = s.vm := by rw [hA]; rfl
  have hhp : s'.heap = H := by rw [hA]; exact hT
  have hW0 : s.WarmedH s'.vm := by rw [hvm]; exact State.WarmedH.refl s
  have hat' : ∀ w ∈ am_o4 own ic, w.before args s' = true := fun w hw => vx_ot_at hW0 hvm.symm (hgood w (List.mem_cons_of_mem _ (List.mem_cons_of_mem _ hw))) (hat w hw)
  have hk' : (Cond.classLink own ik am_N).before args s' = true := vx_ot_at hW0 hvm.symm (hgood _ List.mem_cons_self) (F.2.2.2.2.1 _ c1)
  have hini' : (Cond.initialized am_N).before args s' = true := vx_ot_at hW0 hvm.symm (hgood _ (List.mem_cons_of_mem _ List.mem_cons_self)) (F.2.2.2.2.1 _ c2)
  have hU' : vx_Zq Bundle.tN "UNASSIGNED_STACK" Bundle.steD (fun q => z ≤ q) s' s'.heap := by rw [hhp]; exact vx_Zq.moved hW0.alike (hU.kept hS.2.1)
  have hN' : vx_Zq Bundle.tN "SUPPRESSED_SENTINEL" Bundle.listD (fun q => z ≤ q) s' s'.heap := by rw [hhp]; exact vx_Zq.moved hW0.alike (hN.kept hS.2.1)
  have h : ∀ w ∈ am_oall own ic, w.before args s' = true := vx_own hat' (vx_isRefq hU'.1) (vx_isRefq hN'.1) hU'.2.word hN'.2.word
  have hown' : s'.vm.findClass own = some m.cls := by rw [hvm]; exact hown
  have hins : (Cond.instantiable am_N 6).before args s' = true := h _ (List.mem_append_right _ (by simp [am_oth]))
  obtain ⟨vm₁, cX, kX, hfX, hkX, -, -, X₁, st1⟩ := Y.newCold hexec (own := own) (C := am_N) (index := ik) (n := 6) hown' hk' hins hini'
    (g := F0 m pc ls st) rfl (by rw [hb]; exact d0) (Nat.le_refl _) (Nat.le_refl _)
  generalize hT1 : (T.setVm vm₁).pushCell { cls := cX, slots := kX.instanceTypes.map defaultValue, vm := .none } = T1 at X₁ st1
  have hcat : (Value.ref T.heap.size).category = 1 := rfl
  have hcellA : T1.heap[T.heap.size]? = some (freshCell cX kX) := by rw [← hT1]; exact State.heap_pushCell_size _ _
  have d3' : decode c.code (pc + 3) = .ok (.dup, 1) := by rw [hb]; exact d3
  have d4' : decode c.code (pc + 4) = .ok (.ldc_w is, 3) := by rw [hb]; exact d4
  have hstr' : vk_R own is text sa s' := vk_R.warm hW0 hsa
  obtain ⟨U, hsteps, hrun, hend, hW, hsame, ce, hce, hO, hOc⟩ := am_ctor4 X₁ hexec htr (own := own) (ic := ic) hown' h (fun x hx => nomatch hx) hfX hkX hcellA (by rw [hhp, hT]; exact Nat.le_refl _) (msg := .ref sa) rfl
    (g := { method := m, pc := pc + 7, locals := ls, stack := .ref sa :: .ref T.heap.size :: .ref T.heap.size :: st, locked := none }) rfl (hl.1.trans F.2.2.1.symm) rfl rfl (rest := st) rfl
    (by rw [hb]; exact d6) (by rw [hb]; exact d9) (fun x hx => (ht0 x hx).elim) hR.1 (by have := hR.2.1; simp only [List.map_cons, List.sum_cons, hcat]; show 2 * 0 + _ + _ ≤ _; omega) F.2.2.2.2.2.2
  obtain ⟨f1, f2⟩ := vx_frame hsame
  rw [hhp] at f1 f2
  have hWs : s.WarmedH U.vm := State.WarmedH.trans hW0 hW
  have hcl : s.vm.findClass am_N = some ce.cls := by
    rw [hvm] at hOc
    exact hOc
  have hall : s.sameButNew ({ U with vm := s.vm } : State) locs mcF msF := by
    subst hA
    obtain ⟨e1, e2⟩ := hsame
    rw [State.setFrames_setFrames] at e1
    have h2 : (T.setVm s.vm).sameButNew ({ U with vm := s.vm } : State) [] (0 + 1) (0 + 6) := ⟨e1, e2⟩
    have h3 := X.same.trans h2
    rw [List.append_nil] at h3
    exact h3.mono hcF.1 hcF.2
  have hk : ∀ q : Nat, q < H.size → U.heap[q]? = H[q]? := fun q hq => f2 q hq (fun z hz => nomatch hz)
  refine ⟨U, ?_, .threw T.heap.size, hrun, hend, Or.inr ⟨T.heap.size, rfl, am_N, ce, locs, ⟨4, rfl, ⟨rfl, am_keep hP hk⟩, ⟨Nat.le_trans hS.1 f1, fun q hq hA => by rw [hk q (Nat.lt_of_lt_of_le hq hS.1)]; exact hS.2.1 q hq hA⟩⟩, hce, hO, hcl, hWs, hall, hS.2.2⟩⟩
  refine st1 _ ?_
  show Steps p.tables e below (T1.setTop { method := m, pc := pc + 3, locals := ls, stack := .ref T.heap.size :: st, locked := none }) _
  jvm_step X₁.here [X₁.here.top, hexec, d3', Value.category]
  exact X₁.ldcStringW hexec (own := own) (text := text) (index := is) (a := sa) hown' hstr'.1 hstr'.2
    (g := { method := m, pc := pc + 4, locals := ls, stack := .ref T.heap.size :: .ref T.heap.size :: st, locked := none }) rfl d4' _ hsteps
end AMN2
