/-! The system while it is being made: the first n cells stand, in the order in which they are made; U r: the fields of the object at r (or how many elements of the row of objects at r) that are not yet set. -/
def aq_up {α : Type} (U : Nat → α) (r : Nat) (v : α) : Nat → α := fun a => if a = r then v else U a
theorem aq_up_s {α : Type} {U : Nat → α} {r : Nat} {v : α} : aq_up U r v r = v := if_pos rfl
theorem aq_up_n {α : Type} {U : Nat → α} {r a : Nat} {v : α} (h : a ≠ r) : aq_up U r v a = U a := if_neg h
theorem aq_up_up {α : Type} {U : Nat → α} {r : Nat} {v w : α} : aq_up (aq_up U r v) r w = aq_up U r w := by
  funext a
  unfold aq_up
  by_cases h : a = r <;> simp [h]
theorem aq_up_id {α : Type} {U : Nat → α} {r : Nat} {v : α} (h : U r = v) : aq_up U r v = U := by
  funext a
  unfold aq_up
  by_cases h1 : a = r <;> simp [h1, h]
theorem aq_up_comm {α : Type} {U : Nat → α} {r q : Nat} {v w : α} (h : r ≠ q) : aq_up (aq_up U r v) q w = aq_up (aq_up U q w) r v := by
  funext a
  unfold aq_up
  by_cases h1 : a = r
  · subst h1; simp [h]
  · by_cases h2 : a = q
    · subst h2; simp [h1]
    · simp [h1, h2]
def aq_mask (l : List Value) (u : List Nat) : List Value := (List.range l.length).map (fun k => if u.contains k then .null else l.getD k .null)
theorem aq_mask_nil (l : List Value) : aq_mask l [] = l := by
  unfold aq_mask
  apply List.ext_getElem?
  intro i
  by_cases h : i < l.length
  · rw [List.getElem?_map, List.getElem?_range h]
    simp [List.getD, List.getElem?_eq_getElem h]
  · rw [List.getElem?_eq_none (by simp; omega), List.getElem?_eq_none (by omega)]
def aq_av (z : Nat) (M : am_M) (r n : Nat) (u : List Nat) : Nat → ((Nat → Int32) ⊕ (Nat → Int64) ⊕ (Nat → UInt32) ⊕ (Nat → UInt64) ⊕ (Nat → Option Nat))
  | 22 => .inr (.inr (.inr (.inr (fun j => if n ≤ j + u.length ∧ j < n then none else some (z + (r + 8 + 5 * j))))))
  | 23 => .inr (.inr (.inr (.inr (fun j => if n ≤ j + u.length ∧ j < n then none else some (z + (r + 32 + j))))))
  | t => am_av z M r t
def aq_cu (z : Nat) (E : Nat → ClassId) (M : am_M) (r : Nat) (u : List Nat) (k : Nat × Nat) : va_E := if k.1 < 20 then .inr (k.1, aq_mask (am_fs z M r k.1) u) else .inl (E k.1, (k.2, aq_av z M r k.2 u k.1))
def aq_pic (z : Nat) (E : Nat → ClassId) (M : am_M) (U : Nat → List Nat) (n : Nat) : va_W := (List.range n).map (fun r => (z + r, aq_cu z E M r (U r) (am_ly r)))
theorem aq_at (z : Nat) (E : Nat → ClassId) (M : am_M) (U : Nat → List Nat) {n r : Nat} (hr : r < n) : (aq_pic z E M U n)[r]? = some (z + r, aq_cu z E M r (U r) (am_ly r)) := by
  unfold aq_pic
  rw [List.getElem?_map, List.getElem?_range hr]
  rfl
theorem aq_some {z : Nat} {E : Nat → ClassId} {M : am_M} {U : Nat → List Nat} {n r : Nat} {q : Nat × va_E} (h : (aq_pic z E M U n)[r]? = some q) : r < n ∧ q = (z + r, aq_cu z E M r (U r) (am_ly r)) := by
  have hr : r < n := by
    have h1 := (List.getElem?_eq_some_iff.mp h).1
    simpa [aq_pic] using h1
  rw [aq_at z E M U hr] at h
  exact ⟨hr, (Option.some.inj h).symm⟩
theorem aq_D {z : Nat} {E : Nat → ClassId} {M : am_M} {U : Nat → List Nat} {n : Nat} : va_D (fun q => z ≤ q) (aq_pic z E M U n) := by
  refine ⟨fun i j a b hi hj h => ?_, fun k q hk => ?_⟩
  · obtain ⟨_, rfl⟩ := aq_some hi
    obtain ⟨_, rfl⟩ := aq_some hj
    have : z + i = z + j := h
    omega
  · obtain ⟨_, rfl⟩ := aq_some hk
    exact Nat.le_add_right _ _
theorem aq_obj {z : Nat} {E : Nat → ClassId} {M : am_M} {U : Nat → List Nat} {n r ci : Nat} (h : am_ly r = (ci, 0)) (hc : ci < 20) (hr : r < n) : (aq_pic z E M U n)[r]? = some (z + r, .inr (ci, aq_mask (am_fs z M r ci) (U r))) := by
  rw [aq_at z E M U hr, h]
  simp [aq_cu, hc]
theorem aq_arr {z : Nat} {E : Nat → ClassId} {M : am_M} {U : Nat → List Nat} {n r t k : Nat} (h : am_ly r = (t, k)) (ht : 20 ≤ t) (hr : r < n) : (aq_pic z E M U n)[r]? = some (z + r, .inl (E t, (k, aq_av z M r k (U r) t))) := by
  rw [aq_at z E M U hr, h]
  have : ¬ t < 20 := by omega
  simp [aq_cu, this]
theorem aq_set {z : Nat} {E : Nat → ClassId} {M M' : am_M} {U U' : Nat → List Nat} {n r : Nat} {x : va_E} (hr : r < n) (hx : x = aq_cu z E M' r (U' r) (am_ly r)) (ho : ∀ a, a < n → a ≠ r → aq_cu z E M' a (U' a) (am_ly a) = aq_cu z E M a (U a) (am_ly a)) : (aq_pic z E M U n).set r (z + r, x) = aq_pic z E M' U' n := by
  apply List.ext_getElem?
  intro i
  by_cases hi : i < n
  · rw [aq_at z E M' U' hi, List.getElem?_set]
    by_cases he : r = i
    · subst he
      have : r < (aq_pic z E M U n).length := by simpa [aq_pic] using hr
      simp [this, hx]
    · simp only [he, if_false]
      rw [aq_at z E M U hi, ho i hi (fun h => he h.symm)]
  · rw [List.getElem?_eq_none (by simp [aq_pic]; omega), List.getElem?_eq_none (by simp [aq_pic]; omega)]
/-- one cell more -/
theorem aq_push {z : Nat} {E : Nat → ClassId} {D : va_G} {M : am_M} {U U' : Nat → List Nat} {n : Nat} {H H1 : Heap} {x : va_E} (hP : va_P D am_cl (aq_pic z E M U n) H) (hz : H.size = z + n) (ho : ∀ q : Nat, q < H.size → H1[q]? = H[q]?) (hx : va_at D am_cl (z + n, x) H1) (he : x = aq_cu z E M n (U' n) (am_ly n)) (hu : ∀ a, a < n → U' a = U a) : va_P D am_cl (aq_pic z E M U' (n + 1)) H1 := by
  intro k q hk
  obtain ⟨h1, rfl⟩ := aq_some hk
  by_cases h : k = n
  · subst h
    rw [← he]
    exact hx
  · have hkn : k < n := by omega
    rw [hu k hkn]
    exact (hP k _ (aq_at z E M U hkn)).kept (ho _ (by show z + k < H.size; omega))
/-- all cells stand: the whole picture -/
theorem aq_all {z : Nat} {E : Nat → ClassId} {M : am_M} {U : Nat → List Nat} (hU : ∀ r, r < 188 → U r = []) : aq_pic z E M U 188 = am_pic z E M := by
  unfold aq_pic am_pic
  apply List.map_congr_left
  intro r hr
  have h := hU r (List.mem_range.mp hr)
  rw [h]
  show (z + r, aq_cu z E M r [] (am_ly r)) = (z + r, am_ce z E M r (am_ly r))
  congr 1
  unfold aq_cu am_ce
  rw [aq_mask_nil]
  by_cases h1 : (am_ly r).1 < 20
  · rw [if_pos h1, if_pos h1]
  · rw [if_neg h1, if_neg h1]
    have e : aq_av z M r (am_ly r).2 [] (am_ly r).1 = am_av z M r (am_ly r).1 := by
      generalize (am_ly r).1 = t
      generalize (am_ly r).2 = n
      unfold aq_av
      split
      · show _ = Sum.inr (Sum.inr (Sum.inr (Sum.inr _)))
        congr 4
        funext j
        have : ¬ (n ≤ j + ([] : List Nat).length ∧ j < n) := by simp
        rw [if_neg this]
      · show _ = Sum.inr (Sum.inr (Sum.inr (Sum.inr _)))
        congr 4
        funext j
        have : ¬ (n ≤ j + ([] : List Nat).length ∧ j < n) := by simp
        rw [if_neg this]
      · rfl
    rw [e]
theorem aq_cu_s {z : Nat} {E : Nat → ClassId} {M : am_M} {a b k : Nat} {v : Int32} {u : List Nat} {kd : Nat × Nat} (h : b ≠ a) : aq_cu z E (am_s M a k v) b u kd = aq_cu z E M b u kd := by
  have h1 := am_g_o (M := M) (k := k) (v := v) h
  have h2 : am_fs z (am_s M a k v) b kd.1 = am_fs z M b kd.1 := by
    unfold am_fs
    simp only [h1]
  have h3 : aq_av z (am_s M a k v) b kd.2 u kd.1 = aq_av z M b kd.2 u kd.1 := by
    unfold aq_av am_av
    simp only [h1]
    rfl
  unfold aq_cu
  rw [h2, h3]
def aq_W (p : Program) (l : Launch) (e : Env) (R : Room) (s : State) (m : MethodId) (args : Array Value) (below : List Frame) (meth : Method) (c : Code) (Q : State → Prop) (nL : Nat) (D : va_G) (E : Nat → ClassId) (z cl sl : Nat) (M : am_M) (U : Nat → List Nat) (n pc : Nat) (lv : List (Nat × Value)) (st : List Value) : Prop :=
  ∀ (H : Heap) (locs : List Loc) (ls : Array Slot), H.size = z + n → va_P D am_cl (aq_pic z E M U n) H → va_S (fun q => z ≤ q) s.heap H locs → lv_has ls nL lv → W p l e R s m args below meth c H locs cl sl Q (F0 m pc ls st)
def aq_AO (U : State) : Prop := va_AO "AisleScheduler$Robot" U ∧ va_AO "AisleScheduler$Task" U
theorem aq_AO.moved {u U : State} (hvm : u.vm.Alike U.vm) (h : aq_AO u) : aq_AO U := ⟨h.1.moved hvm, h.2.moved hvm⟩
def aq_BP (z : Nat) (E : Nat → ClassId) (D : va_G) (M : am_M) (U : Nat → List Nat) (n : Nat) (S : State) : Prop := S.heap.size = z + n ∧ va_P D am_cl (aq_pic z E M U n) S.heap ∧ am_TW z E D S ∧ aq_AO S
def aq_BQ (z : Nat) (E : Nat → ClassId) (D : va_G) (M : am_M) (U : Nat → List Nat) (n : Nat) (t : State) : Prop := t.heap.size = z + n ∧ va_P D am_cl (aq_pic z E M U n) t.heap
theorem aq_blind {z n : Nat} {E : Nat → ClassId} {D : va_G} {M : am_M} {U : Nat → List Nat} {av : List Value} : FrameBlind (va_Pc av (aq_BP z E D M U n)) := fun a U g mk q => ⟨q.1, q.2.1, q.2.2.1, q.2.2.2.1.same rfl rfl, q.2.2.2.2.moved (Vm.Alike.refl U.vm)⟩
/-- nothing is set beyond n -/
def aq_fr (M : am_M) (U : Nat → List Nat) (n : Nat) : Prop := ∀ a, n ≤ a → U a = [] ∧ (∀ j, am_g M a j = 0) ∧ (∀ j, am_lg M a j = 0) ∧ ∀ j, am_dg M a j = 0
theorem aq_fr.up {M : am_M} {U : Nat → List Nat} {n r k : Nat} {v : List Nat} (h : aq_fr M U n) (hr : r < n + k) : aq_fr M (aq_up U r v) (n + k) := fun a ha => ⟨(aq_up_n (by omega)).trans (h a (by omega)).1, (h a (by omega)).2⟩
theorem aq_fr.mono {M : am_M} {U : Nat → List Nat} {n k : Nat} (h : aq_fr M U n) (hk : n ≤ k) : aq_fr M U k := fun a ha => h a (Nat.le_trans hk ha)
section AQR
variable {p : Program} {l : Launch} {e : Env} {R : Room} {s : State} {m : MethodId} {args : Array Value} {below : List Frame} {meth : Method} {c : Code} {Q : State → Prop} {cc : ByteArray} {nL : Nat} {own : String} {D : va_G} {E : Nat → ClassId} {z cl sl : Nat} {M : am_M} {U : Nat → List Nat} {n pc : Nat} {lv lv' : List (Nat × Value)} {st : List Value}
theorem aq_iadd (F : am_F p s m args meth c cc nL own D E z) {x y : Int32} (d : decode cc pc = .ok (.iadd, 1)) (k : aq_W p l e R s m args below meth c Q nL D E z cl sl M U n (pc + 1) lv (.int (x + y) :: st)) : aq_W p l e R s m args below meth c Q nL D E z cl sl M U n pc lv (.int y :: .int x :: st) := fun H locs ls hz hP hS hl => lv_iadd F.1 F.2.1 d (k H locs ls hz hP hS hl)
theorem aq_isub (F : am_F p s m args meth c cc nL own D E z) {x y : Int32} (d : decode cc pc = .ok (.isub, 1)) (k : aq_W p l e R s m args below meth c Q nL D E z cl sl M U n (pc + 1) lv (.int (x - y) :: st)) : aq_W p l e R s m args below meth c Q nL D E z cl sl M U n pc lv (.int y :: .int x :: st) := fun H locs ls hz hP hS hl => lv_isub F.1 F.2.1 d (k H locs ls hz hP hS hl)
theorem aq_imul (F : am_F p s m args meth c cc nL own D E z) {x y : Int32} (d : decode cc pc = .ok (.imul, 1)) (k : aq_W p l e R s m args below meth c Q nL D E z cl sl M U n (pc + 1) lv (.int (x * y) :: st)) : aq_W p l e R s m args below meth c Q nL D E z cl sl M U n pc lv (.int y :: .int x :: st) := fun H locs ls hz hP hS hl => lv_imul F.1 F.2.1 d (k H locs ls hz hP hS hl)
theorem aq_iand (F : am_F p s m args meth c cc nL own D E z) {x y : Int32} (d : decode cc pc = .ok (.iand, 1)) (k : aq_W p l e R s m args below meth c Q nL D E z cl sl M U n (pc + 1) lv (.int (x &&& y) :: st)) : aq_W p l e R s m args below meth c Q nL D E z cl sl M U n pc lv (.int y :: .int x :: st) := fun H locs ls hz hP hS hl => lv_iand F.1 F.2.1 d (k H locs ls hz hP hS hl)
theorem aq_ior (F : am_F p s m args meth c cc nL own D E z) {x y : Int32} (d : decode cc pc = .ok (.ior, 1)) (k : aq_W p l e R s m args below meth c Q nL D E z cl sl M U n (pc + 1) lv (.int (x ||| y) :: st)) : aq_W p l e R s m args below meth c Q nL D E z cl sl M U n pc lv (.int y :: .int x :: st) := fun H locs ls hz hP hS hl => lv_ior F.1 F.2.1 d (k H locs ls hz hP hS hl)
theorem aq_ixor (F : am_F p s m args meth c cc nL own D E z) {x y : Int32} (d : decode cc pc = .ok (.ixor, 1)) (k : aq_W p l e R s m args below meth c Q nL D E z cl sl M U n (pc + 1) lv (.int (x ^^^ y) :: st)) : aq_W p l e R s m args below meth c Q nL D E z cl sl M U n pc lv (.int y :: .int x :: st) := fun H locs ls hz hP hS hl => lv_ixor F.1 F.2.1 d (k H locs ls hz hP hS hl)
theorem aq_ishl (F : am_F p s m args meth c cc nL own D E z) {x y : Int32} (d : decode cc pc = .ok (.ishl, 1)) (k : aq_W p l e R s m args below meth c Q nL D E z cl sl M U n (pc + 1) lv (.int (x <<< (y &&& 31)) :: st)) : aq_W p l e R s m args below meth c Q nL D E z cl sl M U n pc lv (.int y :: .int x :: st) := fun H locs ls hz hP hS hl => lv_ishl F.1 F.2.1 d (k H locs ls hz hP hS hl)
theorem aq_ishr (F : am_F p s m args meth c cc nL own D E z) {x y : Int32} (d : decode cc pc = .ok (.ishr, 1)) (k : aq_W p l e R s m args below meth c Q nL D E z cl sl M U n (pc + 1) lv (.int (x >>> (y &&& 31)) :: st)) : aq_W p l e R s m args below meth c Q nL D E z cl sl M U n pc lv (.int y :: .int x :: st) := fun H locs ls hz hP hS hl => lv_ishr F.1 F.2.1 d (k H locs ls hz hP hS hl)
theorem aq_idiv (F : am_F p s m args meth c cc nL own D E z) {x y : Int32} (d : decode cc pc = .ok (.idiv, 1)) (hne : ¬ y = 0) (k : aq_W p l e R s m args below meth c Q nL D E z cl sl M U n (pc + 1) lv (.int (x / y) :: st)) : aq_W p l e R s m args below meth c Q nL D E z cl sl M U n pc lv (.int y :: .int x :: st) := fun H locs ls hz hP hS hl => lv_idiv F.1 F.2.1 d hne (k H locs ls hz hP hS hl)
theorem aq_irem (F : am_F p s m args meth c cc nL own D E z) {x y : Int32} (d : decode cc pc = .ok (.irem, 1)) (hne : ¬ y = 0) (k : aq_W p l e R s m args below meth c Q nL D E z cl sl M U n (pc + 1) lv (.int (x - x / y * y) :: st)) : aq_W p l e R s m args below meth c Q nL D E z cl sl M U n pc lv (.int y :: .int x :: st) := fun H locs ls hz hP hS hl => lv_irem F.1 F.2.1 d hne (k H locs ls hz hP hS hl)
theorem aq_ineg (F : am_F p s m args meth c cc nL own D E z) {x : Int32} (d : decode cc pc = .ok (.ineg, 1)) (k : aq_W p l e R s m args below meth c Q nL D E z cl sl M U n (pc + 1) lv (.int (-x) :: st)) : aq_W p l e R s m args below meth c Q nL D E z cl sl M U n pc lv (.int x :: st) := fun H locs ls hz hP hS hl => lv_ineg F.1 F.2.1 d (k H locs ls hz hP hS hl)
theorem aq_ladd (F : am_F p s m args meth c cc nL own D E z) {x y : Int64} (d : decode cc pc = .ok (.ladd, 1)) (k : aq_W p l e R s m args below meth c Q nL D E z cl sl M U n (pc + 1) lv (.long (x + y) :: st)) : aq_W p l e R s m args below meth c Q nL D E z cl sl M U n pc lv (.long y :: .long x :: st) := fun H locs ls hz hP hS hl => lv_ladd F.1 F.2.1 d (k H locs ls hz hP hS hl)
theorem aq_lsub (F : am_F p s m args meth c cc nL own D E z) {x y : Int64} (d : decode cc pc = .ok (.lsub, 1)) (k : aq_W p l e R s m args below meth c Q nL D E z cl sl M U n (pc + 1) lv (.long (x - y) :: st)) : aq_W p l e R s m args below meth c Q nL D E z cl sl M U n pc lv (.long y :: .long x :: st) := fun H locs ls hz hP hS hl => lv_lsub F.1 F.2.1 d (k H locs ls hz hP hS hl)
theorem aq_land (F : am_F p s m args meth c cc nL own D E z) {x y : Int64} (d : decode cc pc = .ok (.land, 1)) (k : aq_W p l e R s m args below meth c Q nL D E z cl sl M U n (pc + 1) lv (.long (x &&& y) :: st)) : aq_W p l e R s m args below meth c Q nL D E z cl sl M U n pc lv (.long y :: .long x :: st) := fun H locs ls hz hP hS hl => lv_land F.1 F.2.1 d (k H locs ls hz hP hS hl)
theorem aq_lor (F : am_F p s m args meth c cc nL own D E z) {x y : Int64} (d : decode cc pc = .ok (.lor, 1)) (k : aq_W p l e R s m args below meth c Q nL D E z cl sl M U n (pc + 1) lv (.long (x ||| y) :: st)) : aq_W p l e R s m args below meth c Q nL D E z cl sl M U n pc lv (.long y :: .long x :: st) := fun H locs ls hz hP hS hl => lv_lor F.1 F.2.1 d (k H locs ls hz hP hS hl)
theorem aq_lxor (F : am_F p s m args meth c cc nL own D E z) {x y : Int64} (d : decode cc pc = .ok (.lxor, 1)) (k : aq_W p l e R s m args below meth c Q nL D E z cl sl M U n (pc + 1) lv (.long (x ^^^ y) :: st)) : aq_W p l e R s m args below meth c Q nL D E z cl sl M U n pc lv (.long y :: .long x :: st) := fun H locs ls hz hP hS hl => lv_lxor F.1 F.2.1 d (k H locs ls hz hP hS hl)
theorem aq_lshl (F : am_F p s m args meth c cc nL own D E z) {x : Int64} {y : Int32} (d : decode cc pc = .ok (.lshl, 1)) (k : aq_W p l e R s m args below meth c Q nL D E z cl sl M U n (pc + 1) lv (.long (x <<< (y.toInt64 &&& 63)) :: st)) : aq_W p l e R s m args below meth c Q nL D E z cl sl M U n pc lv (.int y :: .long x :: st) := fun H locs ls hz hP hS hl => lv_lshl F.1 F.2.1 d rfl (k H locs ls hz hP hS hl)
theorem aq_lushr (F : am_F p s m args meth c cc nL own D E z) {x : Int64} {y : Int32} (d : decode cc pc = .ok (.lushr, 1)) (k : aq_W p l e R s m args below meth c Q nL D E z cl sl M U n (pc + 1) lv (.long ((x.toUInt64 >>> (y.toInt64.toUInt64 &&& Int64.toUInt64 63)).toInt64) :: st)) : aq_W p l e R s m args below meth c Q nL D E z cl sl M U n pc lv (.int y :: .long x :: st) := fun H locs ls hz hP hS hl => lv_lushr F.1 F.2.1 d rfl (k H locs ls hz hP hS hl)
theorem aq_i2l (F : am_F p s m args meth c cc nL own D E z) {x : Int32} (d : decode cc pc = .ok (.i2l, 1)) (k : aq_W p l e R s m args below meth c Q nL D E z cl sl M U n (pc + 1) lv (.long (x.toInt64) :: st)) : aq_W p l e R s m args below meth c Q nL D E z cl sl M U n pc lv (.int x :: st) := fun H locs ls hz hP hS hl => lv_i2l F.1 F.2.1 d rfl (k H locs ls hz hP hS hl)
theorem aq_l2i (F : am_F p s m args meth c cc nL own D E z) {x : Int64} (d : decode cc pc = .ok (.l2i, 1)) (k : aq_W p l e R s m args below meth c Q nL D E z cl sl M U n (pc + 1) lv (.int (x.toInt32) :: st)) : aq_W p l e R s m args below meth c Q nL D E z cl sl M U n pc lv (.long x :: st) := fun H locs ls hz hP hS hl => lv_l2i F.1 F.2.1 d rfl (k H locs ls hz hP hS hl)
theorem aq_i2c (F : am_F p s m args meth c cc nL own D E z) {x : Int32} (d : decode cc pc = .ok (.i2c, 1)) (k : aq_W p l e R s m args below meth c Q nL D E z cl sl M U n (pc + 1) lv (.int ((x.toUInt32 % 65536).toInt32) :: st)) : aq_W p l e R s m args below meth c Q nL D E z cl sl M U n pc lv (.int x :: st) := fun H locs ls hz hP hS hl => lv_i2c F.1 F.2.1 d rfl (k H locs ls hz hP hS hl)
theorem aq_i2f (F : am_F p s m args meth c cc nL own D E z) {x : Int32} (d : decode cc pc = .ok (.i2f, 1)) (k : aq_W p l e R s m args below meth c Q nL D E z cl sl M U n (pc + 1) lv (.float (FP.i2f x) :: st)) : aq_W p l e R s m args below meth c Q nL D E z cl sl M U n pc lv (.int x :: st) := fun H locs ls hz hP hS hl => lv_i2f F.1 F.2.1 d (k H locs ls hz hP hS hl)
theorem aq_i2d (F : am_F p s m args meth c cc nL own D E z) {x : Int32} (d : decode cc pc = .ok (.i2d, 1)) (k : aq_W p l e R s m args below meth c Q nL D E z cl sl M U n (pc + 1) lv (.double (FP.i2d x) :: st)) : aq_W p l e R s m args below meth c Q nL D E z cl sl M U n pc lv (.int x :: st) := fun H locs ls hz hP hS hl => lv_i2d F.1 F.2.1 d (k H locs ls hz hP hS hl)
theorem aq_f2i (F : am_F p s m args meth c cc nL own D E z) {x : UInt32} (d : decode cc pc = .ok (.f2i, 1)) (k : aq_W p l e R s m args below meth c Q nL D E z cl sl M U n (pc + 1) lv (.int (FP.f2i x) :: st)) : aq_W p l e R s m args below meth c Q nL D E z cl sl M U n pc lv (.float x :: st) := fun H locs ls hz hP hS hl => lv_f2i F.1 F.2.1 d (k H locs ls hz hP hS hl)
theorem aq_f2d (F : am_F p s m args meth c cc nL own D E z) {x : UInt32} (d : decode cc pc = .ok (.f2d, 1)) (hne : vf_n64 (FP.f2d x)) (k : aq_W p l e R s m args below meth c Q nL D E z cl sl M U n (pc + 1) lv (.double (FP.f2d x) :: st)) : aq_W p l e R s m args below meth c Q nL D E z cl sl M U n pc lv (.float x :: st) := fun H locs ls hz hP hS hl => lv_f2d F.1 F.2.1 d hne (k H locs ls hz hP hS hl)
theorem aq_fdiv (F : am_F p s m args meth c cc nL own D E z) {x y : UInt32} (d : decode cc pc = .ok (.fdiv, 1)) (hne : vf_n32 (FP.fdiv x y)) (k : aq_W p l e R s m args below meth c Q nL D E z cl sl M U n (pc + 1) lv (.float (FP.fdiv x y) :: st)) : aq_W p l e R s m args below meth c Q nL D E z cl sl M U n pc lv (.float y :: .float x :: st) := fun H locs ls hz hP hS hl => lv_fdiv F.1 F.2.1 d hne (k H locs ls hz hP hS hl)
theorem aq_fmul (F : am_F p s m args meth c cc nL own D E z) {x y : UInt32} (d : decode cc pc = .ok (.fmul, 1)) (hne : vf_n32 (FP.fmul x y)) (k : aq_W p l e R s m args below meth c Q nL D E z cl sl M U n (pc + 1) lv (.float (FP.fmul x y) :: st)) : aq_W p l e R s m args below meth c Q nL D E z cl sl M U n pc lv (.float y :: .float x :: st) := fun H locs ls hz hP hS hl => lv_fmul F.1 F.2.1 d hne (k H locs ls hz hP hS hl)
theorem aq_ddiv (F : am_F p s m args meth c cc nL own D E z) {x y : UInt64} (d : decode cc pc = .ok (.ddiv, 1)) (hne : vf_n64 (FP.ddiv x y)) (k : aq_W p l e R s m args below meth c Q nL D E z cl sl M U n (pc + 1) lv (.double (FP.ddiv x y) :: st)) : aq_W p l e R s m args below meth c Q nL D E z cl sl M U n pc lv (.double y :: .double x :: st) := fun H locs ls hz hP hS hl => lv_ddiv F.1 F.2.1 d hne (k H locs ls hz hP hS hl)
theorem aq_fcmp (F : am_F p s m args meth c cc nL own D E z) {x y : UInt32} {op : CmpOp} (d : decode cc pc = .ok (.fcmp op, 1)) (k : aq_W p l e R s m args below meth c Q nL D E z cl sl M U n (pc + 1) lv (.int (Op.cmpValue (FP.fcmp x y) op) :: st)) : aq_W p l e R s m args below meth c Q nL D E z cl sl M U n pc lv (.float y :: .float x :: st) := fun H locs ls hz hP hS hl => lv_fcmp F.1 F.2.1 d (k H locs ls hz hP hS hl)
theorem aq_dcmp (F : am_F p s m args meth c cc nL own D E z) {x y : UInt64} {op : CmpOp} (d : decode cc pc = .ok (.dcmp op, 1)) (k : aq_W p l e R s m args below meth c Q nL D E z cl sl M U n (pc + 1) lv (.int (Op.cmpValue (FP.dcmp x y) op) :: st)) : aq_W p l e R s m args below meth c Q nL D E z cl sl M U n pc lv (.double y :: .double x :: st) := fun H locs ls hz hP hS hl => lv_dcmp F.1 F.2.1 d (k H locs ls hz hP hS hl)
theorem aq_fconst0 (F : am_F p s m args meth c cc nL own D E z)  (d : decode cc pc = .ok (.fconst 0, 1)) (k : aq_W p l e R s m args below meth c Q nL D E z cl sl M U n (pc + 1) lv (.float FP.fconst0 :: st)) : aq_W p l e R s m args below meth c Q nL D E z cl sl M U n pc lv st := fun H locs ls hz hP hS hl => lv_fconst0 F.1 F.2.1 d (k H locs ls hz hP hS hl)
theorem aq_fconst1 (F : am_F p s m args meth c cc nL own D E z)  (d : decode cc pc = .ok (.fconst 1, 1)) (k : aq_W p l e R s m args below meth c Q nL D E z cl sl M U n (pc + 1) lv (.float FP.fconst1 :: st)) : aq_W p l e R s m args below meth c Q nL D E z cl sl M U n pc lv st := fun H locs ls hz hP hS hl => lv_fconst1 F.1 F.2.1 d (k H locs ls hz hP hS hl)
theorem aq_fconst2 (F : am_F p s m args meth c cc nL own D E z)  (d : decode cc pc = .ok (.fconst 2, 1)) (k : aq_W p l e R s m args below meth c Q nL D E z cl sl M U n (pc + 1) lv (.float FP.fconst2 :: st)) : aq_W p l e R s m args below meth c Q nL D E z cl sl M U n pc lv st := fun H locs ls hz hP hS hl => lv_fconst2 F.1 F.2.1 d (k H locs ls hz hP hS hl)
theorem aq_dconst0 (F : am_F p s m args meth c cc nL own D E z)  (d : decode cc pc = .ok (.dconst 0, 1)) (k : aq_W p l e R s m args below meth c Q nL D E z cl sl M U n (pc + 1) lv (.double FP.dconst0 :: st)) : aq_W p l e R s m args below meth c Q nL D E z cl sl M U n pc lv st := fun H locs ls hz hP hS hl => lv_dconst0 F.1 F.2.1 d (k H locs ls hz hP hS hl)
theorem aq_iconst (F : am_F p s m args meth c cc nL own D E z) {n9 : Int} {v : Int32} (d : decode cc pc = .ok (.iconst n9, 1)) (hv : Int32.ofInt n9 = v) (k : aq_W p l e R s m args below meth c Q nL D E z cl sl M U n (pc + 1) lv (.int v :: st)) : aq_W p l e R s m args below meth c Q nL D E z cl sl M U n pc lv st := fun H locs ls hz hP hS hl => lv_iconst F.1 F.2.1 d hv (k H locs ls hz hP hS hl)
theorem aq_bipush (F : am_F p s m args meth c cc nL own D E z) {n9 : Int} {v : Int32} (d : decode cc pc = .ok (.bipush n9, 2)) (hv : (Int8.ofInt n9).toInt32 = v) (k : aq_W p l e R s m args below meth c Q nL D E z cl sl M U n (pc + 2) lv (.int v :: st)) : aq_W p l e R s m args below meth c Q nL D E z cl sl M U n pc lv st := fun H locs ls hz hP hS hl => lv_bipush F.1 F.2.1 d hv (k H locs ls hz hP hS hl)
theorem aq_sipush (F : am_F p s m args meth c cc nL own D E z) {n9 : Int} {v : Int32} (d : decode cc pc = .ok (.sipush n9, 3)) (hv : (Int16.ofInt n9).toInt32 = v) (k : aq_W p l e R s m args below meth c Q nL D E z cl sl M U n (pc + 3) lv (.int v :: st)) : aq_W p l e R s m args below meth c Q nL D E z cl sl M U n pc lv st := fun H locs ls hz hP hS hl => lv_sipush F.1 F.2.1 d hv (k H locs ls hz hP hS hl)
theorem aq_lconst (F : am_F p s m args meth c cc nL own D E z) {n9 : Fin 2} {v : Int64} (d : decode cc pc = .ok (.lconst n9, 1)) (hv : Int64.ofNat (n9 : Nat) = v) (k : aq_W p l e R s m args below meth c Q nL D E z cl sl M U n (pc + 1) lv (.long v :: st)) : aq_W p l e R s m args below meth c Q nL D E z cl sl M U n pc lv st := fun H locs ls hz hP hS hl => lv_lconst F.1 F.2.1 d hv (k H locs ls hz hP hS hl)
theorem aq_dup (F : am_F p s m args meth c cc nL own D E z) {va : Value} (d : decode cc pc = .ok (.dup, 1)) (hva : va.category = 1) (k : aq_W p l e R s m args below meth c Q nL D E z cl sl M U n (pc + 1) lv (va :: va :: st)) : aq_W p l e R s m args below meth c Q nL D E z cl sl M U n pc lv (va :: st) := fun H locs ls hz hP hS hl => lv_dup F.1 F.2.1 d hva (k H locs ls hz hP hS hl)
theorem aq_pop (F : am_F p s m args meth c cc nL own D E z) {va : Value} (d : decode cc pc = .ok (.pop, 1)) (hva : va.category = 1) (k : aq_W p l e R s m args below meth c Q nL D E z cl sl M U n (pc + 1) lv st) : aq_W p l e R s m args below meth c Q nL D E z cl sl M U n pc lv (va :: st) := fun H locs ls hz hP hS hl => lv_pop F.1 F.2.1 d hva (k H locs ls hz hP hS hl)
theorem aq_dup2 (F : am_F p s m args meth c cc nL own D E z) {va vb : Value} (d : decode cc pc = .ok (.dup2, 1)) (hva : va.category = 1) (hvb : vb.category = 1) (k : aq_W p l e R s m args below meth c Q nL D E z cl sl M U n (pc + 1) lv (va :: vb :: va :: vb :: st)) : aq_W p l e R s m args below meth c Q nL D E z cl sl M U n pc lv (va :: vb :: st) := fun H locs ls hz hP hS hl => lv_dup2_11 F.1 F.2.1 d hva hvb (k H locs ls hz hP hS hl)
theorem aq_ldc (F : am_F p s m args meth c cc nL own D E z) {i : Nat} {v : Int32} (d : decode cc pc = .ok (.ldc i, 2)) (w : Cond.constant own i v ∈ am_TB) (k : aq_W p l e R s m args below meth c Q nL D E z cl sl M U n (pc + 2) lv (.int v :: st)) : aq_W p l e R s m args below meth c Q nL D E z cl sl M U n pc lv st := fun H locs ls hz hP hS hl => lv_ldc F.1 F.2.1 F.2.2.2.1 (F.2.2.2.2.1 _ w) d (k H locs ls hz hP hS hl)
theorem aq_ldcw (F : am_F p s m args meth c cc nL own D E z) {i : Nat} {v : Int32} (d : decode cc pc = .ok (.ldc_w i, 3)) (w : Cond.constant own i v ∈ am_TB) (k : aq_W p l e R s m args below meth c Q nL D E z cl sl M U n (pc + 3) lv (.int v :: st)) : aq_W p l e R s m args below meth c Q nL D E z cl sl M U n pc lv st := fun H locs ls hz hP hS hl => lv_ldcw F.1 F.2.1 F.2.2.2.1 (F.2.2.2.2.1 _ w) d (k H locs ls hz hP hS hl)
theorem aq_ldcf (F : am_F p s m args meth c cc nL own D E z) {i : Nat} {v : UInt32} (d : decode cc pc = .ok (.ldc i, 2)) (w : Cond.constantFloat own i v ∈ am_TB) (k : aq_W p l e R s m args below meth c Q nL D E z cl sl M U n (pc + 2) lv (.float v :: st)) : aq_W p l e R s m args below meth c Q nL D E z cl sl M U n pc lv st := fun H locs ls hz hP hS hl => lv_ldcf F.1 F.2.1 F.2.2.2.1 (F.2.2.2.2.1 _ w) d (k H locs ls hz hP hS hl)
theorem aq_ldc2 (F : am_F p s m args meth c cc nL own D E z) {i : Nat} {v : Int64} (d : decode cc pc = .ok (.ldc2_w i, 3)) (w : Cond.constantLong own i v ∈ am_TB) (k : aq_W p l e R s m args below meth c Q nL D E z cl sl M U n (pc + 3) lv (.long v :: st)) : aq_W p l e R s m args below meth c Q nL D E z cl sl M U n pc lv st := fun H locs ls hz hP hS hl => lv_ldc2 F.1 F.2.1 F.2.2.2.1 (F.2.2.2.2.1 _ w) d (k H locs ls hz hP hS hl)
theorem aq_iload_n (F : am_F p s m args meth c cc nL own D E z) (q : Nat) {k9 : Fin 4} {i : Nat} {x : Int32} (d : decode cc pc = .ok (.iload_n k9, 1)) (hi : (k9 : Nat) = i) (hq : lv[q]? = some (i, .int x)) (k : aq_W p l e R s m args below meth c Q nL D E z cl sl M U n (pc + 1) lv (.int x :: st)) : aq_W p l e R s m args below meth c Q nL D E z cl sl M U n pc lv st := fun H locs ls hz hP hS hl => lv_iload_n F.1 F.2.1 d hi (lv_at hl q hq) (k H locs ls hz hP hS hl)
theorem aq_iload (F : am_F p s m args meth c cc nL own D E z) (q : Nat) {i : Nat} {x : Int32} (d : decode cc pc = .ok (.iload i, 2)) (hq : lv[q]? = some (i, .int x)) (k : aq_W p l e R s m args below meth c Q nL D E z cl sl M U n (pc + 2) lv (.int x :: st)) : aq_W p l e R s m args below meth c Q nL D E z cl sl M U n pc lv st := fun H locs ls hz hP hS hl => lv_iload F.1 F.2.1 d (lv_at hl q hq) (k H locs ls hz hP hS hl)
theorem aq_istore_n (F : am_F p s m args meth c cc nL own D E z) (lv' : List (Nat × Value)) {k9 : Fin 4} {i : Nat} {x : Int32} (d : decode cc pc = .ok (.istore_n k9, 1)) (hi : (k9 : Nat) = i) (hn : i < nL) (hq : (i, Value.int x) :: lv.filter (fun q => !(q.1 == i) && !(q.1 + 1 == i && q.2.category == 2)) = lv') (k : aq_W p l e R s m args below meth c Q nL D E z cl sl M U n (pc + 1) lv' st) : aq_W p l e R s m args below meth c Q nL D E z cl sl M U n pc lv (.int x :: st) := fun H locs ls hz hP hS hl => lv_istore_n F.1 F.2.1 d hi hl hn hq (fun ls hl => k H locs ls hz hP hS hl)
theorem aq_istore (F : am_F p s m args meth c cc nL own D E z) (lv' : List (Nat × Value)) {i : Nat} {x : Int32} (d : decode cc pc = .ok (.istore i, 2)) (hn : i < nL) (hq : (i, Value.int x) :: lv.filter (fun q => !(q.1 == i) && !(q.1 + 1 == i && q.2.category == 2)) = lv') (k : aq_W p l e R s m args below meth c Q nL D E z cl sl M U n (pc + 2) lv' st) : aq_W p l e R s m args below meth c Q nL D E z cl sl M U n pc lv (.int x :: st) := fun H locs ls hz hP hS hl => lv_istore F.1 F.2.1 d hl hn hq (fun ls hl => k H locs ls hz hP hS hl)
theorem aq_lload_n (F : am_F p s m args meth c cc nL own D E z) (q : Nat) {k9 : Fin 4} {i : Nat} {x : Int64} (d : decode cc pc = .ok (.lload_n k9, 1)) (hi : (k9 : Nat) = i) (hq : lv[q]? = some (i, .long x)) (k : aq_W p l e R s m args below meth c Q nL D E z cl sl M U n (pc + 1) lv (.long x :: st)) : aq_W p l e R s m args below meth c Q nL D E z cl sl M U n pc lv st := fun H locs ls hz hP hS hl => lv_lload_n F.1 F.2.1 d hi (lv_at hl q hq) (k H locs ls hz hP hS hl)
theorem aq_lload (F : am_F p s m args meth c cc nL own D E z) (q : Nat) {i : Nat} {x : Int64} (d : decode cc pc = .ok (.lload i, 2)) (hq : lv[q]? = some (i, .long x)) (k : aq_W p l e R s m args below meth c Q nL D E z cl sl M U n (pc + 2) lv (.long x :: st)) : aq_W p l e R s m args below meth c Q nL D E z cl sl M U n pc lv st := fun H locs ls hz hP hS hl => lv_lload F.1 F.2.1 d (lv_at hl q hq) (k H locs ls hz hP hS hl)
theorem aq_lstore_n (F : am_F p s m args meth c cc nL own D E z) (lv' : List (Nat × Value)) {k9 : Fin 4} {i : Nat} {x : Int64} (d : decode cc pc = .ok (.lstore_n k9, 1)) (hi : (k9 : Nat) = i) (hn : i + 1 < nL) (hq : (i, Value.long x) :: lv.filter (fun q => !(q.1 == i) && (!(q.1 == i + 1) && !(q.1 + 1 == i && q.2.category == 2))) = lv') (k : aq_W p l e R s m args below meth c Q nL D E z cl sl M U n (pc + 1) lv' st) : aq_W p l e R s m args below meth c Q nL D E z cl sl M U n pc lv (.long x :: st) := fun H locs ls hz hP hS hl => lv_lstore_n F.1 F.2.1 d hi hl hn hq (fun ls hl => k H locs ls hz hP hS hl)
theorem aq_lstore (F : am_F p s m args meth c cc nL own D E z) (lv' : List (Nat × Value)) {i : Nat} {x : Int64} (d : decode cc pc = .ok (.lstore i, 2)) (hn : i + 1 < nL) (hq : (i, Value.long x) :: lv.filter (fun q => !(q.1 == i) && (!(q.1 == i + 1) && !(q.1 + 1 == i && q.2.category == 2))) = lv') (k : aq_W p l e R s m args below meth c Q nL D E z cl sl M U n (pc + 2) lv' st) : aq_W p l e R s m args below meth c Q nL D E z cl sl M U n pc lv (.long x :: st) := fun H locs ls hz hP hS hl => lv_lstore F.1 F.2.1 d hl hn hq (fun ls hl => k H locs ls hz hP hS hl)
theorem aq_aload_n (F : am_F p s m args meth c cc nL own D E z) (q : Nat) {k9 : Fin 4} {i : Nat} {x : Nat} (d : decode cc pc = .ok (.aload_n k9, 1)) (hi : (k9 : Nat) = i) (hq : lv[q]? = some (i, .ref x)) (k : aq_W p l e R s m args below meth c Q nL D E z cl sl M U n (pc + 1) lv (.ref x :: st)) : aq_W p l e R s m args below meth c Q nL D E z cl sl M U n pc lv st := fun H locs ls hz hP hS hl => lv_aload_n F.1 F.2.1 d hi (lv_at hl q hq) (k H locs ls hz hP hS hl)
theorem aq_aload (F : am_F p s m args meth c cc nL own D E z) (q : Nat) {i : Nat} {x : Nat} (d : decode cc pc = .ok (.aload i, 2)) (hq : lv[q]? = some (i, .ref x)) (k : aq_W p l e R s m args below meth c Q nL D E z cl sl M U n (pc + 2) lv (.ref x :: st)) : aq_W p l e R s m args below meth c Q nL D E z cl sl M U n pc lv st := fun H locs ls hz hP hS hl => lv_aload F.1 F.2.1 d (lv_at hl q hq) (k H locs ls hz hP hS hl)
theorem aq_astore_n (F : am_F p s m args meth c cc nL own D E z) (lv' : List (Nat × Value)) {k9 : Fin 4} {i : Nat} {x : Nat} (d : decode cc pc = .ok (.astore_n k9, 1)) (hi : (k9 : Nat) = i) (hn : i < nL) (hq : (i, Value.ref x) :: lv.filter (fun q => !(q.1 == i) && !(q.1 + 1 == i && q.2.category == 2)) = lv') (k : aq_W p l e R s m args below meth c Q nL D E z cl sl M U n (pc + 1) lv' st) : aq_W p l e R s m args below meth c Q nL D E z cl sl M U n pc lv (.ref x :: st) := fun H locs ls hz hP hS hl => lv_astore_n F.1 F.2.1 d hi hl hn hq (fun ls hl => k H locs ls hz hP hS hl)
theorem aq_astore (F : am_F p s m args meth c cc nL own D E z) (lv' : List (Nat × Value)) {i : Nat} {x : Nat} (d : decode cc pc = .ok (.astore i, 2)) (hn : i < nL) (hq : (i, Value.ref x) :: lv.filter (fun q => !(q.1 == i) && !(q.1 + 1 == i && q.2.category == 2)) = lv') (k : aq_W p l e R s m args below meth c Q nL D E z cl sl M U n (pc + 2) lv' st) : aq_W p l e R s m args below meth c Q nL D E z cl sl M U n pc lv (.ref x :: st) := fun H locs ls hz hP hS hl => lv_astore F.1 F.2.1 d hl hn hq (fun ls hl => k H locs ls hz hP hS hl)
theorem aq_fload_n (F : am_F p s m args meth c cc nL own D E z) (q : Nat) {k9 : Fin 4} {i : Nat} {x : UInt32} (d : decode cc pc = .ok (.fload_n k9, 1)) (hi : (k9 : Nat) = i) (hq : lv[q]? = some (i, .float x)) (k : aq_W p l e R s m args below meth c Q nL D E z cl sl M U n (pc + 1) lv (.float x :: st)) : aq_W p l e R s m args below meth c Q nL D E z cl sl M U n pc lv st := fun H locs ls hz hP hS hl => lv_fload_n F.1 F.2.1 d hi (lv_at hl q hq) (k H locs ls hz hP hS hl)
theorem aq_fload (F : am_F p s m args meth c cc nL own D E z) (q : Nat) {i : Nat} {x : UInt32} (d : decode cc pc = .ok (.fload i, 2)) (hq : lv[q]? = some (i, .float x)) (k : aq_W p l e R s m args below meth c Q nL D E z cl sl M U n (pc + 2) lv (.float x :: st)) : aq_W p l e R s m args below meth c Q nL D E z cl sl M U n pc lv st := fun H locs ls hz hP hS hl => lv_fload F.1 F.2.1 d (lv_at hl q hq) (k H locs ls hz hP hS hl)
theorem aq_fstore_n (F : am_F p s m args meth c cc nL own D E z) (lv' : List (Nat × Value)) {k9 : Fin 4} {i : Nat} {x : UInt32} (d : decode cc pc = .ok (.fstore_n k9, 1)) (hi : (k9 : Nat) = i) (hn : i < nL) (hq : (i, Value.float x) :: lv.filter (fun q => !(q.1 == i) && !(q.1 + 1 == i && q.2.category == 2)) = lv') (k : aq_W p l e R s m args below meth c Q nL D E z cl sl M U n (pc + 1) lv' st) : aq_W p l e R s m args below meth c Q nL D E z cl sl M U n pc lv (.float x :: st) := fun H locs ls hz hP hS hl => lv_fstore_n F.1 F.2.1 d hi hl hn hq (fun ls hl => k H locs ls hz hP hS hl)
theorem aq_fstore (F : am_F p s m args meth c cc nL own D E z) (lv' : List (Nat × Value)) {i : Nat} {x : UInt32} (d : decode cc pc = .ok (.fstore i, 2)) (hn : i < nL) (hq : (i, Value.float x) :: lv.filter (fun q => !(q.1 == i) && !(q.1 + 1 == i && q.2.category == 2)) = lv') (k : aq_W p l e R s m args below meth c Q nL D E z cl sl M U n (pc + 2) lv' st) : aq_W p l e R s m args below meth c Q nL D E z cl sl M U n pc lv (.float x :: st) := fun H locs ls hz hP hS hl => lv_fstore F.1 F.2.1 d hl hn hq (fun ls hl => k H locs ls hz hP hS hl)
theorem aq_dload_n (F : am_F p s m args meth c cc nL own D E z) (q : Nat) {k9 : Fin 4} {i : Nat} {x : UInt64} (d : decode cc pc = .ok (.dload_n k9, 1)) (hi : (k9 : Nat) = i) (hq : lv[q]? = some (i, .double x)) (k : aq_W p l e R s m args below meth c Q nL D E z cl sl M U n (pc + 1) lv (.double x :: st)) : aq_W p l e R s m args below meth c Q nL D E z cl sl M U n pc lv st := fun H locs ls hz hP hS hl => lv_dload_n F.1 F.2.1 d hi (lv_at hl q hq) (k H locs ls hz hP hS hl)
theorem aq_dload (F : am_F p s m args meth c cc nL own D E z) (q : Nat) {i : Nat} {x : UInt64} (d : decode cc pc = .ok (.dload i, 2)) (hq : lv[q]? = some (i, .double x)) (k : aq_W p l e R s m args below meth c Q nL D E z cl sl M U n (pc + 2) lv (.double x :: st)) : aq_W p l e R s m args below meth c Q nL D E z cl sl M U n pc lv st := fun H locs ls hz hP hS hl => lv_dload F.1 F.2.1 d (lv_at hl q hq) (k H locs ls hz hP hS hl)
theorem aq_dstore_n (F : am_F p s m args meth c cc nL own D E z) (lv' : List (Nat × Value)) {k9 : Fin 4} {i : Nat} {x : UInt64} (d : decode cc pc = .ok (.dstore_n k9, 1)) (hi : (k9 : Nat) = i) (hn : i + 1 < nL) (hq : (i, Value.double x) :: lv.filter (fun q => !(q.1 == i) && (!(q.1 == i + 1) && !(q.1 + 1 == i && q.2.category == 2))) = lv') (k : aq_W p l e R s m args below meth c Q nL D E z cl sl M U n (pc + 1) lv' st) : aq_W p l e R s m args below meth c Q nL D E z cl sl M U n pc lv (.double x :: st) := fun H locs ls hz hP hS hl => lv_dstore_n F.1 F.2.1 d hi hl hn hq (fun ls hl => k H locs ls hz hP hS hl)
theorem aq_dstore (F : am_F p s m args meth c cc nL own D E z) (lv' : List (Nat × Value)) {i : Nat} {x : UInt64} (d : decode cc pc = .ok (.dstore i, 2)) (hn : i + 1 < nL) (hq : (i, Value.double x) :: lv.filter (fun q => !(q.1 == i) && (!(q.1 == i + 1) && !(q.1 + 1 == i && q.2.category == 2))) = lv') (k : aq_W p l e R s m args below meth c Q nL D E z cl sl M U n (pc + 2) lv' st) : aq_W p l e R s m args below meth c Q nL D E z cl sl M U n pc lv (.double x :: st) := fun H locs ls hz hP hS hl => lv_dstore F.1 F.2.1 d hl hn hq (fun ls hl => k H locs ls hz hP hS hl)
theorem aq_iinc (F : am_F p s m args meth c cc nL own D E z) (lv' : List (Nat × Value)) (q : Nat) {i : Nat} {n9 : Int} {x v : Int32} (d : decode cc pc = .ok (.iinc i n9, 3)) (hn : i < nL) (hk : lv[q]? = some (i, .int x)) (hv : x + Int32.ofInt n9 = v) (hq : (i, Value.int v) :: lv.filter (fun q => !(q.1 == i) && !(q.1 + 1 == i && q.2.category == 2)) = lv') (k : aq_W p l e R s m args below meth c Q nL D E z cl sl M U n (pc + 3) lv' st) : aq_W p l e R s m args below meth c Q nL D E z cl sl M U n pc lv st := fun H locs ls hz hP hS hl => lv_iinc F.1 F.2.1 d hl hk hv hn hq (fun ls hl => k H locs ls hz hP hS hl)
theorem aq_astore_nN (F : am_F p s m args meth c cc nL own D E z) (lv' : List (Nat × Value)) {k9 : Fin 4} {i : Nat} (d : decode cc pc = .ok (.astore_n k9, 1)) (hi : (k9 : Nat) = i) (hn : i < nL) (hq : (i, Value.null) :: lv.filter (fun q => !(q.1 == i) && !(q.1 + 1 == i && q.2.category == 2)) = lv') (k : aq_W p l e R s m args below meth c Q nL D E z cl sl M U n (pc + 1) lv' st) : aq_W p l e R s m args below meth c Q nL D E z cl sl M U n pc lv (.null :: st) := fun H locs ls hz hP hS hl => lv_astore_nN F.1 F.2.1 d hi hl hn hq (fun ls hl => k H locs ls hz hP hS hl)
theorem aq_aload_nN (F : am_F p s m args meth c cc nL own D E z) (q : Nat) {k9 : Fin 4} {i : Nat} (d : decode cc pc = .ok (.aload_n k9, 1)) (hi : (k9 : Nat) = i) (hq : lv[q]? = some (i, .null)) (k : aq_W p l e R s m args below meth c Q nL D E z cl sl M U n (pc + 1) lv (.null :: st)) : aq_W p l e R s m args below meth c Q nL D E z cl sl M U n pc lv st := fun H locs ls hz hP hS hl => lv_aload_nN F.1 F.2.1 d hi (lv_at hl q hq) (k H locs ls hz hP hS hl)
theorem aq_sub (ks : List Nat) (hq : lv_pick lv ks = lv') (k : aq_W p l e R s m args below meth c Q nL D E z cl sl M U n pc lv' st) : aq_W p l e R s m args below meth c Q nL D E z cl sl M U n pc lv st := fun H locs ls hz hP hS hl => k H locs ls hz hP hS (lv_sub hl ks hq)
theorem aq_icmp_eq (F : am_F p s m args meth c cc nL own D E z) {x y : Int32} {off : Int} {tgt : Nat} (d : decode cc pc = .ok (.if_icmp .eq off, 3)) (ht : (pc : Int) + off = (tgt : Int)) (kt : x = y → aq_W p l e R s m args below meth c Q nL D E z cl sl M U n tgt lv st) (kf : ¬ (x = y) → aq_W p l e R s m args below meth c Q nL D E z cl sl M U n (pc + 3) lv st) : aq_W p l e R s m args below meth c Q nL D E z cl sl M U n pc lv (.int y :: .int x :: st) := fun H locs ls hz hP hS hl => lv_icmp_eq F.1 F.2.1 d ht (fun h => kt h H locs ls hz hP hS hl) (fun h => kf h H locs ls hz hP hS hl)
theorem aq_icmp_ne (F : am_F p s m args meth c cc nL own D E z) {x y : Int32} {off : Int} {tgt : Nat} (d : decode cc pc = .ok (.if_icmp .ne off, 3)) (ht : (pc : Int) + off = (tgt : Int)) (kt : ¬ x = y → aq_W p l e R s m args below meth c Q nL D E z cl sl M U n tgt lv st) (kf : x = y → aq_W p l e R s m args below meth c Q nL D E z cl sl M U n (pc + 3) lv st) : aq_W p l e R s m args below meth c Q nL D E z cl sl M U n pc lv (.int y :: .int x :: st) := fun H locs ls hz hP hS hl => lv_icmp_ne F.1 F.2.1 d ht (fun h => kt h H locs ls hz hP hS hl) (fun h => kf h H locs ls hz hP hS hl)
theorem aq_icmp_lt (F : am_F p s m args meth c cc nL own D E z) {x y : Int32} {off : Int} {tgt : Nat} (d : decode cc pc = .ok (.if_icmp .lt off, 3)) (ht : (pc : Int) + off = (tgt : Int)) (kt : x < y → aq_W p l e R s m args below meth c Q nL D E z cl sl M U n tgt lv st) (kf : ¬ (x < y) → aq_W p l e R s m args below meth c Q nL D E z cl sl M U n (pc + 3) lv st) : aq_W p l e R s m args below meth c Q nL D E z cl sl M U n pc lv (.int y :: .int x :: st) := fun H locs ls hz hP hS hl => lv_icmp_lt F.1 F.2.1 d ht (fun h => kt h H locs ls hz hP hS hl) (fun h => kf h H locs ls hz hP hS hl)
theorem aq_icmp_ge (F : am_F p s m args meth c cc nL own D E z) {x y : Int32} {off : Int} {tgt : Nat} (d : decode cc pc = .ok (.if_icmp .ge off, 3)) (ht : (pc : Int) + off = (tgt : Int)) (kt : y ≤ x → aq_W p l e R s m args below meth c Q nL D E z cl sl M U n tgt lv st) (kf : ¬ (y ≤ x) → aq_W p l e R s m args below meth c Q nL D E z cl sl M U n (pc + 3) lv st) : aq_W p l e R s m args below meth c Q nL D E z cl sl M U n pc lv (.int y :: .int x :: st) := fun H locs ls hz hP hS hl => lv_icmp_ge F.1 F.2.1 d ht (fun h => kt h H locs ls hz hP hS hl) (fun h => kf h H locs ls hz hP hS hl)
theorem aq_icmp_gt (F : am_F p s m args meth c cc nL own D E z) {x y : Int32} {off : Int} {tgt : Nat} (d : decode cc pc = .ok (.if_icmp .gt off, 3)) (ht : (pc : Int) + off = (tgt : Int)) (kt : y < x → aq_W p l e R s m args below meth c Q nL D E z cl sl M U n tgt lv st) (kf : ¬ (y < x) → aq_W p l e R s m args below meth c Q nL D E z cl sl M U n (pc + 3) lv st) : aq_W p l e R s m args below meth c Q nL D E z cl sl M U n pc lv (.int y :: .int x :: st) := fun H locs ls hz hP hS hl => lv_icmp_gt F.1 F.2.1 d ht (fun h => kt h H locs ls hz hP hS hl) (fun h => kf h H locs ls hz hP hS hl)
theorem aq_icmp_le (F : am_F p s m args meth c cc nL own D E z) {x y : Int32} {off : Int} {tgt : Nat} (d : decode cc pc = .ok (.if_icmp .le off, 3)) (ht : (pc : Int) + off = (tgt : Int)) (kt : x ≤ y → aq_W p l e R s m args below meth c Q nL D E z cl sl M U n tgt lv st) (kf : ¬ (x ≤ y) → aq_W p l e R s m args below meth c Q nL D E z cl sl M U n (pc + 3) lv st) : aq_W p l e R s m args below meth c Q nL D E z cl sl M U n pc lv (.int y :: .int x :: st) := fun H locs ls hz hP hS hl => lv_icmp_le F.1 F.2.1 d ht (fun h => kt h H locs ls hz hP hS hl) (fun h => kf h H locs ls hz hP hS hl)
theorem aq_if_eq (F : am_F p s m args meth c cc nL own D E z) {x : Int32} {off : Int} {tgt : Nat} (d : decode cc pc = .ok (.ifCond .eq off, 3)) (ht : (pc : Int) + off = (tgt : Int)) (kt : x = 0 → aq_W p l e R s m args below meth c Q nL D E z cl sl M U n tgt lv st) (kf : ¬ (x = 0) → aq_W p l e R s m args below meth c Q nL D E z cl sl M U n (pc + 3) lv st) : aq_W p l e R s m args below meth c Q nL D E z cl sl M U n pc lv (.int x :: st) := fun H locs ls hz hP hS hl => lv_if_eq F.1 F.2.1 d ht (fun h => kt h H locs ls hz hP hS hl) (fun h => kf h H locs ls hz hP hS hl)
theorem aq_if_ne (F : am_F p s m args meth c cc nL own D E z) {x : Int32} {off : Int} {tgt : Nat} (d : decode cc pc = .ok (.ifCond .ne off, 3)) (ht : (pc : Int) + off = (tgt : Int)) (kt : ¬ x = 0 → aq_W p l e R s m args below meth c Q nL D E z cl sl M U n tgt lv st) (kf : x = 0 → aq_W p l e R s m args below meth c Q nL D E z cl sl M U n (pc + 3) lv st) : aq_W p l e R s m args below meth c Q nL D E z cl sl M U n pc lv (.int x :: st) := fun H locs ls hz hP hS hl => lv_if_ne F.1 F.2.1 d ht (fun h => kt h H locs ls hz hP hS hl) (fun h => kf h H locs ls hz hP hS hl)
theorem aq_if_lt (F : am_F p s m args meth c cc nL own D E z) {x : Int32} {off : Int} {tgt : Nat} (d : decode cc pc = .ok (.ifCond .lt off, 3)) (ht : (pc : Int) + off = (tgt : Int)) (kt : x < 0 → aq_W p l e R s m args below meth c Q nL D E z cl sl M U n tgt lv st) (kf : ¬ (x < 0) → aq_W p l e R s m args below meth c Q nL D E z cl sl M U n (pc + 3) lv st) : aq_W p l e R s m args below meth c Q nL D E z cl sl M U n pc lv (.int x :: st) := fun H locs ls hz hP hS hl => lv_if_lt F.1 F.2.1 d ht (fun h => kt h H locs ls hz hP hS hl) (fun h => kf h H locs ls hz hP hS hl)
theorem aq_if_ge (F : am_F p s m args meth c cc nL own D E z) {x : Int32} {off : Int} {tgt : Nat} (d : decode cc pc = .ok (.ifCond .ge off, 3)) (ht : (pc : Int) + off = (tgt : Int)) (kt : 0 ≤ x → aq_W p l e R s m args below meth c Q nL D E z cl sl M U n tgt lv st) (kf : ¬ (0 ≤ x) → aq_W p l e R s m args below meth c Q nL D E z cl sl M U n (pc + 3) lv st) : aq_W p l e R s m args below meth c Q nL D E z cl sl M U n pc lv (.int x :: st) := fun H locs ls hz hP hS hl => lv_if_ge F.1 F.2.1 d ht (fun h => kt h H locs ls hz hP hS hl) (fun h => kf h H locs ls hz hP hS hl)
theorem aq_if_gt (F : am_F p s m args meth c cc nL own D E z) {x : Int32} {off : Int} {tgt : Nat} (d : decode cc pc = .ok (.ifCond .gt off, 3)) (ht : (pc : Int) + off = (tgt : Int)) (kt : 0 < x → aq_W p l e R s m args below meth c Q nL D E z cl sl M U n tgt lv st) (kf : ¬ (0 < x) → aq_W p l e R s m args below meth c Q nL D E z cl sl M U n (pc + 3) lv st) : aq_W p l e R s m args below meth c Q nL D E z cl sl M U n pc lv (.int x :: st) := fun H locs ls hz hP hS hl => lv_if_gt F.1 F.2.1 d ht (fun h => kt h H locs ls hz hP hS hl) (fun h => kf h H locs ls hz hP hS hl)
theorem aq_if_le (F : am_F p s m args meth c cc nL own D E z) {x : Int32} {off : Int} {tgt : Nat} (d : decode cc pc = .ok (.ifCond .le off, 3)) (ht : (pc : Int) + off = (tgt : Int)) (kt : x ≤ 0 → aq_W p l e R s m args below meth c Q nL D E z cl sl M U n tgt lv st) (kf : ¬ (x ≤ 0) → aq_W p l e R s m args below meth c Q nL D E z cl sl M U n (pc + 3) lv st) : aq_W p l e R s m args below meth c Q nL D E z cl sl M U n pc lv (.int x :: st) := fun H locs ls hz hP hS hl => lv_if_le F.1 F.2.1 d ht (fun h => kt h H locs ls hz hP hS hl) (fun h => kf h H locs ls hz hP hS hl)
theorem aq_goto (F : am_F p s m args meth c cc nL own D E z) {off : Int} {tgt : Nat} (d : decode cc pc = .ok (.goto off, 3)) (ht : (pc : Int) + off = (tgt : Int)) (k : aq_W p l e R s m args below meth c Q nL D E z cl sl M U n tgt lv st) : aq_W p l e R s m args below meth c Q nL D E z cl sl M U n pc lv st := fun H locs ls hz hP hS hl => lv_goto F.1 F.2.1 d ht (k H locs ls hz hP hS hl)
theorem aq_lcmp (F : am_F p s m args meth c cc nL own D E z) {x y : Int64} (d : decode cc pc = .ok (.lcmp, 1)) (k : aq_W p l e R s m args below meth c Q nL D E z cl sl M U n (pc + 1) lv (.int (lg_cmp x y) :: st)) : aq_W p l e R s m args below meth c Q nL D E z cl sl M U n pc lv (.long y :: .long x :: st) := fun H locs ls hz hP hS hl => W.lcmp F.1 F.2.1 d (k H locs ls hz hP hS hl)
theorem aq_lookup (F : am_F p s m args meth c cc nL own D E z) {dflt : Int} {ps : Array (Int × Int)} {len : Nat} {x : Int32} {off : Int} {tgt : Nat} (d : decode cc pc = .ok (.lookupswitch dflt ps, len)) (hp : (ps.toList.zip (ps.toList.drop 1)).all (fun (a, next) => a.1 < next.1) = true) (ho : Op.lookupswitch.offset ps.toList dflt x.toInt = off) (ht : (pc : Int) + off = (tgt : Int)) (k : aq_W p l e R s m args below meth c Q nL D E z cl sl M U n tgt lv st) : aq_W p l e R s m args below meth c Q nL D E z cl sl M U n pc lv (.int x :: st) := fun H locs ls hz hP hS hl => lv_lookup F.1 F.2.1 d hp ho ht (k H locs ls hz hP hS hl)
theorem aq_tabOut (F : am_F p s m args meth c cc nL own D E z) {dflt lo hi : Int} {offs : Array Int} {len : Nat} {x : Int32} {tgt : Nat} (d : decode cc pc = .ok (.tableswitch dflt lo hi offs, len)) (h : x.toInt < lo ∨ hi < x.toInt) (ht : (pc : Int) + dflt = (tgt : Int)) (k : aq_W p l e R s m args below meth c Q nL D E z cl sl M U n tgt lv st) : aq_W p l e R s m args below meth c Q nL D E z cl sl M U n pc lv (.int x :: st) := fun H locs ls hz hP hS hl => lv_tableOut F.1 F.2.1 d h ht (k H locs ls hz hP hS hl)
theorem aq_tabIn (F : am_F p s m args meth c cc nL own D E z) (v : Int) {dflt lo hi : Int} {offs : Array Int} {len : Nat} {x : Int32} {off : Int} {tgt : Nat} (d : decode cc pc = .ok (.tableswitch dflt lo hi offs, len)) (hv : x.toInt = v) (h1 : (!decide (v < lo) && !decide (hi < v)) = true) (ho : offs[(v - lo).toNat]? = some off) (ht : (pc : Int) + off = (tgt : Int)) (k : aq_W p l e R s m args below meth c Q nL D E z cl sl M U n tgt lv st) : aq_W p l e R s m args below meth c Q nL D E z cl sl M U n pc lv (.int x :: st) := fun H locs ls hz hP hS hl => lv_tableIn F.1 F.2.1 d (by rw [hv]; simp at h1; omega) (by rw [hv]; simp at h1; omega) (by rw [hv]; exact ho) ht (k H locs ls hz hP hS hl)
theorem aq_null (F : am_F p s m args meth c cc nL own D E z) (d : decode cc pc = .ok (.aconst_null, 1)) (k : aq_W p l e R s m args below meth c Q nL D E z cl sl M U n (pc + 1) lv (.null :: st)) : aq_W p l e R s m args below meth c Q nL D E z cl sl M U n pc lv st := fun H locs ls hz hP hS hl => lv_null F.1 F.2.1 d (k H locs ls hz hP hS hl)
theorem aq_ifnonnull (F : am_F p s m args meth c cc nL own D E z) {x : Nat} {off : Int} {tgt : Nat} (d : decode cc pc = .ok (.ifnonnull off, 3)) (ht : (pc : Int) + off = (tgt : Int)) (k : aq_W p l e R s m args below meth c Q nL D E z cl sl M U n tgt lv st) : aq_W p l e R s m args below meth c Q nL D E z cl sl M U n pc lv (.ref x :: st) := fun H locs ls hz hP hS hl => lv_ifnonnull F.1 F.2.1 d ht (k H locs ls hz hP hS hl)
theorem aq_ifnonnullN (F : am_F p s m args meth c cc nL own D E z) {off : Int} (d : decode cc pc = .ok (.ifnonnull off, 3)) (k : aq_W p l e R s m args below meth c Q nL D E z cl sl M U n (pc + 3) lv st) : aq_W p l e R s m args below meth c Q nL D E z cl sl M U n pc lv (.null :: st) := fun H locs ls hz hP hS hl => lv_ifnonnullN F.1 F.2.1 d (k H locs ls hz hP hS hl)
theorem aq_max (F : am_F p s m args meth c cc nL own D E z) {i : Nat} {x y : Int32} (d : decode cc pc = .ok (.invokestatic i, 3)) (hlink : Cond.methodLink own i Lib.Math.max.name ∈ am_TB) (hfr : 1 ≤ R.frames) (hlo : (st.map fun v => v.category).sum + 13 ≤ R.locals) (hcl : cl ≤ R.cells) (hsl : sl ≤ R.slots) (k : aq_W p l e R s m args below meth c Q nL D E z cl sl M U n (pc + 3) lv (.int (if x < y then y else x) :: st)) : aq_W p l e R s m args below meth c Q nL D E z cl sl M U n pc lv (.int y :: .int x :: st) := fun H locs ls hz hP hS hl => va_mmax F.1 F.2.1 (F.2.2.1.trans hl.1.symm) F.2.2.2.1 (F.2.2.2.2.1 _ hlink) (F.2.2.2.2.1 _ am_w_max_s) (F.2.2.2.2.1 _ am_w_Math_i) (F.2.2.2.2.1 _ am_w_max_c) hfr hlo hcl hsl d (k H locs ls hz hP hS hl)
theorem aq_min (F : am_F p s m args meth c cc nL own D E z) {i : Nat} {x y : Int32} (d : decode cc pc = .ok (.invokestatic i, 3)) (hlink : Cond.methodLink own i Lib.Math.min.name ∈ am_TB) (hfr : 1 ≤ R.frames) (hlo : (st.map fun v => v.category).sum + 13 ≤ R.locals) (hcl : cl ≤ R.cells) (hsl : sl ≤ R.slots) (k : aq_W p l e R s m args below meth c Q nL D E z cl sl M U n (pc + 3) lv (.int (if y < x then y else x) :: st)) : aq_W p l e R s m args below meth c Q nL D E z cl sl M U n pc lv (.int y :: .int x :: st) := fun H locs ls hz hP hS hl => va_mmin F.1 F.2.1 (F.2.2.1.trans hl.1.symm) F.2.2.2.1 (F.2.2.2.2.1 _ hlink) (F.2.2.2.2.1 _ am_w_min_s) (F.2.2.2.2.1 _ am_w_Math_i) (F.2.2.2.2.1 _ am_w_min_c) hfr hlo hcl hsl d (k H locs ls hz hP hS hl)

theorem aq_get (F : am_F p s m args meth c cc nL own D E z) {C : String} {T : u_T} {N ci index r : Nat} (hin : ∀ w ∈ u_ws C T N, w ∈ am_TB) (hly : am_ly r = (ci, 0)) (hr : r < n) (hci : ci < 20) (hc : am_cl[ci]? = some (C, T, N)) (k9 : Nat) (hk : k9 < N) (hT : (T k9).1 = C) (hlink : Cond.fieldLink own index C (T k9).2.1 (T k9).2.2.1 ∈ am_TB) {v : Value} (hv : (aq_mask (am_fs z M r ci) (U r))[k9]? = some v) (d : decode cc pc = .ok (.getfield index, 3)) (k : aq_W p l e R s m args below meth c Q nL D E z cl sl M U n (pc + 3) lv (v :: st)) : aq_W p l e R s m args below meth c Q nL D E z cl sl M U n pc lv (.ref (z + r) :: st) := fun H locs ls hz hP hS hl => va_get (D := D) (ci := ci) (C := C) (T := T) (N := N) (ref := C) F.1 F.2.1 F.2.2.2.2.1 hin F.2.2.2.1 F.2.2.2.2.2.1.1 hP r (aq_obj hly hci hr) hc k9 hk (F.2.2.2.2.1 _ hlink) (by rw [hT]; exact fun _ h => h) hv d (k H locs ls hz hP hS hl)
theorem aq_alen (F : am_F p s m args meth c cc nL own D E z) {r k0 tag t0 : Nat} {ty : FieldType} {v : Int32} (hly : am_ly r = (tag, k0)) (hr : r < n) (htg : 20 ≤ tag) (ht : (am_tys E)[t0]? = some (E tag, ty)) (hv : Int32.ofNat k0 = v) (d : decode cc pc = .ok (.arraylength, 1)) (k : aq_W p l e R s m args below meth c Q nL D E z cl sl M U n (pc + 1) lv (.int v :: st)) : aq_W p l e R s m args below meth c Q nL D E z cl sl M U n pc lv (.ref (z + r) :: st) := fun H locs ls hz hP hS hl => va_alen (D := D) F.1 F.2.1 F.2.2.2.2.2.1.1 hP r t0 (aq_arr hly htg hr) ht hv d (k H locs ls hz hP hS hl)
theorem aq_put (F : am_F p s m args meth c cc nL own D E z) {C : String} {T : u_T} {N ci index r : Nat} (hin : ∀ w ∈ u_ws C T N, w ∈ am_TB) (ty0 : Nat → FieldType) (hty : ∀ k, k < N → parseFieldDescriptor (T k).2.2.1 = some (ty0 k)) (hnm : ∀ a, a < N → ∀ b, b < N → a ≠ b → (T a).2.1 ≠ (T b).2.1) (hly : am_ly r = (ci, 0)) (hr : r < n) (hci : ci < 20) (hc : am_cl[ci]? = some (C, T, N)) (k9 : Nat) (hk : k9 < N) (hT : (T k9).1 = C) (hfin : (T k9).2.2.2 = false) (hlink : Cond.fieldLink own index C (T k9).2.1 (T k9).2.2.1 ∈ am_TB) {ty : FieldType} {x : Int32} (hd : parseFieldDescriptor (T k9).2.2.1 = some ty) (hn : narrow ty (.int x) = .int x) (hfit : fits ty (.int x) = true) (hl9 : k9 < (aq_mask (am_fs z M r ci) (U r)).length) (hset : (aq_mask (am_fs z M r ci) (U r)).set k9 (.int x) = aq_mask (am_fs z (am_s M r k9 x) r ci) (U r)) (d : decode cc pc = .ok (.putfield index, 3)) (k : aq_W p l e R s m args below meth c Q nL D E z cl sl (am_s M r k9 x) U n (pc + 3) lv st) : aq_W p l e R s m args below meth c Q nL D E z cl sl M U n pc lv (.int x :: .ref (z + r) :: st) := by
  intro H locs ls hz hP hS0 hl
  have hK := F.2.2.2.2.2.1.1
  have hts := F.2.2.2.2.1
  have hap := va_apart (own := own) hts hin ty0 hty hnm hK hc
  have he := aq_obj (z := z) (E := E) (M := M) (U := U) hly hci hr
  obtain ⟨r9, h1, cell, q1, q2, q3, q4⟩ := hP r _ he
  have hr9 : r9 = (C, T, N) := Option.some.inj (h1.symm.trans hc)
  subst hr9
  obtain ⟨hS, hfc, kC, hkC, hkind⟩ := hK.1 ci _ hc
  obtain ⟨cf, kf, fi, f, hi, hsl⟩ := hS k9 hk
  have hlay := hts _ (hin _ (u_in_lay hk))
  unfold u_lay at hlay
  rw [if_neg (by rw [hfin]; decide)] at hlay
  have hst := (u_facts hfc hkC (u_lays hts hin hk) hi).1
  have h6 := u_store hfc hkC hkind hlay hi hd hn hfit
  refine W.putK F.1 F.2.1 (f := f) ⟨F.2.2.2.1, hts _ hlink, ⟨_, _, _, by rw [hT] at hi; exact hi⟩, hst⟩ (by rw [q2]; exact h6) q1 q3 (by rw [hsl]; exact k2_hasslot (q4 k9 hk)) rfl rfl d fun H' e1 e2 e3 => ?_
  rw [hsl] at e1 ⊢
  have hP1 := hP.set (e := .inr (ci, (aq_mask (am_fs z M r ci) (U r)).set k9 (.int x))) aq_D he ⟨_, hc, t_OB.to (V := updV (vp_V (aq_mask (am_fs z M r ci) (U r))) k9 (.int x)) ⟨_, e1, q2, q3, t_set q4 hap hk _⟩ (fun j _ => vp_updV_set hl9 _ j)⟩ e3
  rw [aq_set (M' := am_s M r k9 x) (U' := U) hr (by rw [hly]; simp [aq_cu, hci, hset]) (fun a _ ha => aq_cu_s ha)] at hP1
  exact k H' _ ls (by rw [e2]; exact hz) hP1 (hS0.put e2 e3 (aq_D.2 r _ he)) hl
theorem aq_putR (F : am_F p s m args meth c cc nL own D E z) (hin2 : meth.name = "<init>") {C : String} {T : u_T} {N ci index r : Nat} {rest : List Nat} (hin : ∀ w ∈ u_ws C T N, w ∈ am_TB) (ty0 : Nat → FieldType) (hty : ∀ k, k < N → parseFieldDescriptor (T k).2.2.1 = some (ty0 k)) (hnm : ∀ a, a < N → ∀ b, b < N → a ≠ b → (T a).2.1 ≠ (T b).2.1) (hly : am_ly r = (ci, 0)) (hr : r < n) (hci : ci < 20) (hc : am_cl[ci]? = some (C, T, N)) (k9 : Nat) (hk : k9 < N) (hT : (T k9).1 = C) (hfin : (T k9).2.2.2 = true) (hdecl : (T k9).1 = own) (hlink : Cond.fieldLink own index C (T k9).2.1 (T k9).2.2.1 ∈ am_TB) {ty : FieldType} {v : Nat} (hd : parseFieldDescriptor (T k9).2.2.1 = some ty) (hn : narrow ty (.ref (z + v)) = .ref (z + v)) (hfit : fits ty (.ref (z + v)) = true) (hl9 : k9 < (aq_mask (am_fs z M r ci) (U r)).length) (hset : (aq_mask (am_fs z M r ci) (U r)).set k9 (.ref (z + v)) = aq_mask (am_fs z M r ci) rest) (d : decode cc pc = .ok (.putfield index, 3)) (k : aq_W p l e R s m args below meth c Q nL D E z cl sl M (aq_up U r rest) n (pc + 3) lv st) : aq_W p l e R s m args below meth c Q nL D E z cl sl M U n pc lv (.ref (z + v) :: .ref (z + r) :: st) := by
  intro H locs ls hz hP hS0 hl
  have hK := F.2.2.2.2.2.1.1
  have hts := F.2.2.2.2.1
  have hap := va_apart (own := own) hts hin ty0 hty hnm hK hc
  have he := aq_obj (z := z) (E := E) (M := M) (U := U) hly hci hr
  obtain ⟨r9, h1, cell, q1, q2, q3, q4⟩ := hP r _ he
  have hr9 : r9 = (C, T, N) := Option.some.inj (h1.symm.trans hc)
  subst hr9
  obtain ⟨hS, hfc, kC, hkC, hkind⟩ := hK.1 ci _ hc
  obtain ⟨cf, kf, fi, f, hi, hsl⟩ := hS k9 hk
  have hlay := hts _ (hin _ (u_in_lay hk))
  unfold u_lay at hlay
  rw [if_pos hfin] at hlay
  have hst := (u_facts hfc hkC (u_lays hts hin hk) hi).1
  have hcf : m.cls = cf := by
    obtain ⟨_, _, c', _, _, _, -, -, hf', -, -, -, hown2, -⟩ := Cond.laysFinal_spec hlay
    have e1 : c' = cf := by have := hi.symm.trans hf'; simp at this; exact this.1.symm
    rw [hdecl] at hown2
    rw [← e1]; exact Option.some.inj (F.2.2.2.1.symm.trans hown2)
  have h6 := u_fits hfc hkC hkind (Or.inr hlay) hi hd hn hfit
  refine W.putFinK F.1 F.2.1 F.2.2.2.1 (hts _ hlink) (by rw [hT] at hi; exact hi) hst hcf hin2 (by rw [q2]; exact h6) q1 q3 (by rw [hsl]; exact k2_hasslot (q4 k9 hk)) rfl rfl d fun H' e1 e2 e3 => ?_
  rw [hsl] at e1 ⊢
  have hP1 := hP.set (e := .inr (ci, (aq_mask (am_fs z M r ci) (U r)).set k9 (.ref (z + v)))) aq_D he ⟨_, hc, t_OB.to (V := updV (vp_V (aq_mask (am_fs z M r ci) (U r))) k9 (.ref (z + v))) ⟨_, e1, q2, q3, t_set q4 hap hk _⟩ (fun j _ => vp_updV_set hl9 _ j)⟩ e3
  rw [aq_set (M' := M) (U' := aq_up U r rest) hr (by rw [hly, aq_up_s]; simp [aq_cu, hci, hset]) (fun a _ ha => by rw [aq_up_n ha])] at hP1
  exact k H' _ ls (by rw [e2]; exact hz) hP1 (hS0.put e2 e3 (aq_D.2 r _ he)) hl
theorem aq_iast (F : am_F p s m args meth c cc nL own D E z) {r k0 : Nat} {i : Int32} {x : Int32} (hly : am_ly r = (20, k0)) (hr : r < n) (hin : vp_in i k0) (d : decode cc pc = .ok (.iastore, 1)) (k : aq_W p l e R s m args below meth c Q nL D E z cl sl (am_s M r i.toNatClampNeg x) U n (pc + 1) lv st) : aq_W p l e R s m args below meth c Q nL D E z cl sl M U n pc lv (.int x :: .int i :: .ref (z + r) :: st) := by
  intro H locs ls hz hP hS hl
  have hK := F.2.2.2.2.2.1.1
  have ha := aq_arr (z := z) (E := E) (M := M) (U := U) hly (by decide) hr
  refine W.iast F.1 F.2.1 (hP r _ ha) ((hK.2 0 _ rfl).1 k0 (fun j => .int (am_g M r j))) (fun q => by cases q) (by show ¬ (i < 0 ∨ (arrV _ _ _).slots.size ≤ _); rw [arrV_size]; exact hin) rfl rfl d fun H1 e z1 oq => ?_
  have hP1 := hP.set (e := .inl (E 20, (k0, .inl (upd (am_g M r) i.toNatClampNeg x)))) aq_D ha (by
    show H1[z + r]? = some (vp_cell _ _)
    rw [e]
    show some (Cell.setSlot (vp_cell (E 20) (k0, .inl (am_g M r))) _ _) = _
    rw [vp_cell_i, vp_cell_i, arrV_store]
    congr 2
    funext q
    by_cases hq : q = i.toNatClampNeg
    · subst hq
      simp [updV, upd]
    · simp [updV, upd, hq]) oq
  rw [aq_set (M' := am_s M r i.toNatClampNeg x) (U' := U) hr (by rw [hly]; simp [aq_cu, aq_av, am_av, am_g_s]) (fun a _ ha => aq_cu_s ha)] at hP1
  exact k H1 _ ls (by rw [z1]; exact hz) hP1 (hS.put z1 oq (aq_D.2 r _ ha)) hl
end AQR
