/-! the constructors -/
def aq_K1 : List (Nat × Nat) := [(1, 0), (20, 40), (20, 280), (20, 4), (20, 40)]
def aq_K2 : List (Nat × Nat) := [(2, 0), (20, 30), (20, 31)]
def aq_K4 : List (Nat × Nat) := [(4, 0), (2, 0), (20, 30), (20, 31), (20, 5)]
def aq_K7 : List (Nat × Nat) := [(7, 0)]
def aq_K8 : List (Nat × Nat) := [(8, 0), (1, 0), (20, 40), (20, 280), (20, 4), (20, 40), (20, 40), (22, 5), (23, 12), (4, 0), (2, 0), (20, 30), (20, 31), (20, 5), (7, 0), (4, 0), (2, 0), (20, 30), (20, 31), (20, 5), (4, 0), (2, 0), (20, 30), (20, 31), (20, 5), (4, 0), (2, 0), (20, 30), (20, 31), (20, 5), (4, 0), (2, 0), (20, 30), (20, 31), (20, 5), (4, 0), (2, 0), (20, 30), (20, 31), (20, 5), (7, 0), (7, 0), (7, 0), (7, 0), (7, 0), (7, 0), (7, 0), (7, 0), (7, 0), (7, 0), (7, 0), (7, 0)]
theorem aq_sub_4_1 {t : Nat} (hL : ∀ (i : Nat) (k9 : Nat × Nat), aq_K4[i]? = some k9 → am_ly (t + i) = k9) : ∀ (i : Nat) (k9 : Nat × Nat), aq_K2[i]? = some k9 → am_ly (t + 1 + i) = k9 := by
  intro i k9 hk
  have hi : i < 3 := by
    have := (List.getElem?_eq_some_iff.mp hk).1
    exact this
  rw [Nat.add_assoc]
  refine hL (1 + i) k9 ?_
  rw [← hk]
  have h9 : ∀ j, j < 3 → aq_K4[1 + j]? = aq_K2[j]? := by decide +kernel
  exact h9 i hi
theorem aq_mask_len (l : List Value) (u : List Nat) : (aq_mask l u).length = l.length := by simp [aq_mask]
theorem aq_mask_get {l : List Value} {u : List Nat} {k : Nat} {v : Value} (h : u.contains k = false) (hl : l[k]? = some v) : (aq_mask l u)[k]? = some v := by
  have hk : k < l.length := (List.getElem?_eq_some_iff.mp hl).1
  unfold aq_mask
  rw [List.getElem?_map, List.getElem?_range hk]
  simp only [Option.map_some, h]
  simp [List.getD, hl]
theorem aq_mask_set {l : List Value} {rest : List Nat} {k : Nat} {v : Value} (h : rest.contains k = false) (hl : l[k]? = some v) : (aq_mask l (k :: rest)).set k v = aq_mask l rest := by
  have hk : k < l.length := (List.getElem?_eq_some_iff.mp hl).1
  apply List.ext_getElem?
  intro i
  rw [List.getElem?_set, aq_mask_len]
  by_cases hi : k = i
  · subst hi
    simp only [if_true, hk]
    exact (aq_mask_get h hl).symm
  · simp only [hi, if_false]
    unfold aq_mask
    by_cases h2 : i < l.length
    · rw [List.getElem?_map, List.getElem?_map, List.getElem?_range h2]
      have h3 : (k :: rest).contains i = rest.contains i := by
        rw [List.contains_cons]
        have : (i == k) = false := by simp; omega
        rw [this]; rfl
      simp only [Option.map_some, h3]
    · rw [List.getElem?_eq_none (by simp; omega), List.getElem?_eq_none (by simp; omega)]
theorem aq_fr_s {M : am_M} {U : Nat → List Nat} {n a k : Nat} {v : Int32} (h : aq_fr M U n) (ha : a < n := by omega) : aq_fr (am_s M a k v) U n := fun b hb => ⟨(h b hb).1, fun j => by rw [am_g_o (by omega)]; exact (h b hb).2.1 j, (h b hb).2.2.1, (h b hb).2.2.2⟩
theorem aq_fr_up {M : am_M} {U : Nat → List Nat} {n r : Nat} {v : List Nat} (h : aq_fr M U n) (hr : r < n) : aq_fr M (aq_up U r v) n := fun a ha => ⟨(aq_up_n (by omega)).trans (h a ha).1, (h a ha).2⟩
theorem aq_cell20 {z : Nat} {E : Nat → ClassId} {M : am_M} {n len : Nat} (h : ∀ j, am_g M n j = 0) : vp_cell (E 20) (len, am_av z M n 20) = arrV (E 20) len (fun _ => defaultValue .int) := by
  show arrV _ _ (fun j => .int (am_g M n j)) = _
  exact aq_arrV (fun j _ => by rw [h]; rfl)
theorem aq_cell24 {z : Nat} {E : Nat → ClassId} {M : am_M} {n len : Nat} (h : ∀ j, am_g M n j = 0) : vp_cell (E 24) (len, am_av z M n 24) = arrV (E 24) len (fun _ => defaultValue .boolean) := by
  show arrV _ _ (fun j => .int (am_g M n j)) = _
  exact aq_arrV (fun j _ => by rw [h]; rfl)
theorem aq_cell21 {z : Nat} {E : Nat → ClassId} {M : am_M} {n len : Nat} (h : ∀ j, am_lg M n j = 0) : vp_cell (E 21) (len, am_av z M n 21) = arrV (E 21) len (fun _ => defaultValue .long) := by
  show arrV _ _ (fun j => .long (am_lg M n j)) = _
  exact aq_arrV (fun j _ => by rw [h]; rfl)
theorem aq_cell25 {z : Nat} {E : Nat → ClassId} {M : am_M} {n len : Nat} (h : ∀ j, am_dg M n j = 0) : vp_cell (E 25) (len, am_av z M n 25) = arrV (E 25) len (fun _ => defaultValue .double) := by
  show arrV _ _ (fun j => .double (am_dg M n j)) = _
  exact aq_arrV (fun j _ => by rw [h]; rfl)
theorem aq_wa20 : Cond.arrayClass .int ∈ am_TB := am_tb1 83 (by decide +kernel) (by decide +kernel)
theorem aq_wa21 : Cond.arrayClass .long ∈ am_TB := am_tb1 264 (by decide +kernel) (by decide +kernel)
theorem aq_wa24 : Cond.arrayClass .boolean ∈ am_TB := am_tb1 1359 (by decide +kernel) (by decide +kernel)
theorem aq_wa25 : Cond.arrayClass .double ∈ am_TB := am_tb1 1780 (by decide +kernel) (by decide +kernel)
theorem aq_def_0 {z : Nat} {M : am_M} {n : Nat} (h : ∀ j, am_g M n j = 0) : ∀ j, j < 5 → defaultValue (tyX0 j) = vp_V (aq_mask (am_fs z M n 0) [1, 2, 3, 4, 0]) j := by
  intro j hj
  rw [show aq_mask (am_fs z M n 0) [1, 2, 3, 4, 0] = [.null, .null, .null, .null, .null] from rfl]
  match j, hj with
  | 0, _ => rfl
  | 1, _ => rfl
  | 2, _ => rfl
  | 3, _ => rfl
  | 4, _ => rfl
  | j + 5, h9 => exact absurd h9 (by omega)
theorem aq_def_1 {z : Nat} {M : am_M} {n : Nat} (h : ∀ j, am_g M n j = 0) : ∀ j, j < 5 → defaultValue (tyX1 j) = vp_V (aq_mask (am_fs z M n 1) [0, 1, 2, 4]) j := by
  intro j hj
  rw [show aq_mask (am_fs z M n 1) [0, 1, 2, 4] = [.null, .null, .null, .int (am_g M n 3), .null] from rfl, h 3]
  match j, hj with
  | 0, _ => rfl
  | 1, _ => rfl
  | 2, _ => rfl
  | 3, _ => rfl
  | 4, _ => rfl
  | j + 5, h9 => exact absurd h9 (by omega)
theorem aq_def_2 {z : Nat} {M : am_M} {n : Nat} (h : ∀ j, am_g M n j = 0) : ∀ j, j < 5 → defaultValue (tyX2 j) = vp_V (aq_mask (am_fs z M n 2) [0, 1]) j := by
  intro j hj
  rw [show aq_mask (am_fs z M n 2) [0, 1] = [.null, .null, .int (am_g M n 2), .int (am_g M n 3), .int (am_g M n 4)] from rfl, h 2, h 3, h 4]
  match j, hj with
  | 0, _ => rfl
  | 1, _ => rfl
  | 2, _ => rfl
  | 3, _ => rfl
  | 4, _ => rfl
  | j + 5, h9 => exact absurd h9 (by omega)
theorem aq_def_3 {z : Nat} {M : am_M} {n : Nat} (h : ∀ j, am_g M n j = 0) : ∀ j, j < 3 → defaultValue (tyX3 j) = vp_V (aq_mask (am_fs z M n 3) [2, 0, 1]) j := by
  intro j hj
  rw [show aq_mask (am_fs z M n 3) [2, 0, 1] = [.null, .null, .null] from rfl]
  match j, hj with
  | 0, _ => rfl
  | 1, _ => rfl
  | 2, _ => rfl
  | j + 3, h9 => exact absurd h9 (by omega)
theorem aq_def_4 {z : Nat} {M : am_M} {n : Nat} (h : ∀ j, am_g M n j = 0) : ∀ j, j < 5 → defaultValue (tyX4 j) = vp_V (aq_mask (am_fs z M n 4) [0, 1]) j := by
  intro j hj
  rw [show aq_mask (am_fs z M n 4) [0, 1] = [.null, .null, .int (am_g M n 2), .int (am_g M n 3), .int (am_g M n 4)] from rfl, h 2, h 3, h 4]
  match j, hj with
  | 0, _ => rfl
  | 1, _ => rfl
  | 2, _ => rfl
  | 3, _ => rfl
  | 4, _ => rfl
  | j + 5, h9 => exact absurd h9 (by omega)
theorem aq_def_5 {z : Nat} {M : am_M} {n : Nat} (h : ∀ j, am_g M n j = 0) : ∀ j, j < 8 → defaultValue (tyX5 j) = vp_V (aq_mask (am_fs z M n 5) [2, 3, 4, 5]) j := by
  intro j hj
  rw [show aq_mask (am_fs z M n 5) [2, 3, 4, 5] = [.int (am_g M n 0), .int (am_g M n 1), .null, .null, .null, .null, .int (am_g M n 6), .int (am_g M n 7)] from rfl, h 0, h 1, h 6, h 7]
  match j, hj with
  | 0, _ => rfl
  | 1, _ => rfl
  | 2, _ => rfl
  | 3, _ => rfl
  | 4, _ => rfl
  | 5, _ => rfl
  | 6, _ => rfl
  | 7, _ => rfl
  | j + 8, h9 => exact absurd h9 (by omega)
theorem aq_def_6 {z : Nat} {M : am_M} {n : Nat} (h : ∀ j, am_g M n j = 0) : ∀ j, j < 2 → defaultValue (tyX6 j) = vp_V (aq_mask (am_fs z M n 6) [0, 1]) j := by
  intro j hj
  rw [show aq_mask (am_fs z M n 6) [0, 1] = [.null, .null] from rfl]
  match j, hj with
  | 0, _ => rfl
  | 1, _ => rfl
  | j + 2, h9 => exact absurd h9 (by omega)
theorem aq_def_7 {z : Nat} {M : am_M} {n : Nat} (h : ∀ j, am_g M n j = 0) : ∀ j, j < 9 → defaultValue (tyX7 j) = vp_V (aq_mask (am_fs z M n 7) []) j := by
  intro j hj
  rw [show aq_mask (am_fs z M n 7) [] = [.int (am_g M n 0), .int (am_g M n 1), .int (am_g M n 2), .int (am_g M n 3), .int (am_g M n 4), .int (am_g M n 5), .int (am_g M n 6), .int (am_g M n 7), .int (am_g M n 8)] from rfl, h 0, h 1, h 2, h 3, h 4, h 5, h 6, h 7, h 8]
  match j, hj with
  | 0, _ => rfl
  | 1, _ => rfl
  | 2, _ => rfl
  | 3, _ => rfl
  | 4, _ => rfl
  | 5, _ => rfl
  | 6, _ => rfl
  | 7, _ => rfl
  | 8, _ => rfl
  | j + 9, h9 => exact absurd h9 (by omega)
theorem aq_def_8 {z : Nat} {M : am_M} {n : Nat} (h : ∀ j, am_g M n j = 0) : ∀ j, j < 9 → defaultValue (tyX8 j) = vp_V (aq_mask (am_fs z M n 8) [0, 1, 5, 6, 7, 8]) j := by
  intro j hj
  rw [show aq_mask (am_fs z M n 8) [0, 1, 5, 6, 7, 8] = [.null, .null, .int (am_g M n 2), .int (am_g M n 3), .int (am_g M n 4), .null, .null, .null, .null] from rfl, h 2, h 3, h 4]
  match j, hj with
  | 0, _ => rfl
  | 1, _ => rfl
  | 2, _ => rfl
  | 3, _ => rfl
  | 4, _ => rfl
  | 5, _ => rfl
  | 6, _ => rfl
  | 7, _ => rfl
  | 8, _ => rfl
  | j + 9, h9 => exact absurd h9 (by omega)
theorem aq_def_9 {z : Nat} {M : am_M} {n : Nat} (h : ∀ j, am_g M n j = 0) : ∀ j, j < 8 → defaultValue (tyX9 j) = vp_V (aq_mask (am_fs z M n 9) [0, 1, 2, 3, 4, 5]) j := by
  intro j hj
  rw [show aq_mask (am_fs z M n 9) [0, 1, 2, 3, 4, 5] = [.null, .null, .null, .null, .null, .null, .int (am_g M n 6), .int (am_g M n 7)] from rfl, h 6, h 7]
  match j, hj with
  | 0, _ => rfl
  | 1, _ => rfl
  | 2, _ => rfl
  | 3, _ => rfl
  | 4, _ => rfl
  | 5, _ => rfl
  | 6, _ => rfl
  | 7, _ => rfl
  | j + 8, h9 => exact absurd h9 (by omega)
theorem aq_def_10 {z : Nat} {M : am_M} {n : Nat} (h : ∀ j, am_g M n j = 0) : ∀ j, j < 21 → defaultValue (tyX10 j) = vp_V (aq_mask (am_fs z M n 10) [1, 2, 3, 5, 6, 9, 10, 12, 13, 14, 18]) j := by
  intro j hj
  rw [show aq_mask (am_fs z M n 10) [1, 2, 3, 5, 6, 9, 10, 12, 13, 14, 18] = [.int (am_g M n 0), .null, .null, .null, .int (am_g M n 4), .null, .null, .int (am_g M n 7), .int (am_g M n 8), .null, .null, .int (am_g M n 11), .null, .null, .null, .int (am_g M n 15), .int (am_g M n 16), .int (am_g M n 17), .null, .int (am_g M n 19), .int (am_g M n 20)] from rfl, h 0, h 4, h 7, h 8, h 11, h 15, h 16, h 17, h 19, h 20]
  match j, hj with
  | 0, _ => rfl
  | 1, _ => rfl
  | 2, _ => rfl
  | 3, _ => rfl
  | 4, _ => rfl
  | 5, _ => rfl
  | 6, _ => rfl
  | 7, _ => rfl
  | 8, _ => rfl
  | 9, _ => rfl
  | 10, _ => rfl
  | 11, _ => rfl
  | 12, _ => rfl
  | 13, _ => rfl
  | 14, _ => rfl
  | 15, _ => rfl
  | 16, _ => rfl
  | 17, _ => rfl
  | 18, _ => rfl
  | 19, _ => rfl
  | 20, _ => rfl
  | j + 21, h9 => exact absurd h9 (by omega)
theorem wd_45 : (Jvm.Cond.methodLink "AisleScheduler$Floor" (3 : Nat) ({ cls := "java/lang/Object", name := "<init>", desc := "()V" } : Jvm.MethodName)) ∈ am_TB := am_tb1 45 (by decide +kernel) (by decide +kernel)
theorem wd_46 : (Jvm.Cond.methodLink "AisleScheduler$Floor" (24 : Nat) ({ cls := "AisleScheduler$Floor", name := "empty", desc := "()V" } : Jvm.MethodName)) ∈ am_TB := am_tb1 46 (by decide +kernel) (by decide +kernel)
theorem wd_92 : (Jvm.Cond.methodLink "AisleScheduler$Robot" (3 : Nat) ({ cls := "java/lang/Object", name := "<init>", desc := "()V" } : Jvm.MethodName)) ∈ am_TB := am_tb1 92 (by decide +kernel) (by decide +kernel)
theorem wd_93 : (Jvm.Cond.classLink "AisleScheduler$Robot" (9 : Nat) "AisleScheduler$Plan") ∈ am_TB := am_tb1 93 (by decide +kernel) (by decide +kernel)
theorem wd_94 : (Jvm.Cond.instantiable "AisleScheduler$Plan" (5 : Nat)) ∈ am_TB := am_tb1 94 (by decide +kernel) (by decide +kernel)
theorem wd_96 : (Jvm.Cond.instanceMethod ({ cls := "AisleScheduler$Plan", name := "<init>", desc := "()V" } : Jvm.MethodName)) ∈ am_TB := am_tb1 96 (by decide +kernel) (by decide +kernel)
theorem wd_97 : (Jvm.Cond.code ({ cls := "AisleScheduler$Plan", name := "<init>", desc := "()V" } : Jvm.MethodName) prog_4_method_1_code (1 : Nat) (Option.none : Option Jvm.ClassFile.FieldType)) ∈ am_TB := am_tb1 97 (by decide +kernel) (by decide +kernel)
theorem wd_98 : (Jvm.Cond.methodLink "AisleScheduler$Plan" (3 : Nat) ({ cls := "java/lang/Object", name := "<init>", desc := "()V" } : Jvm.MethodName)) ∈ am_TB := am_tb1 98 (by decide +kernel) (by decide +kernel)
theorem wd_151 : (Jvm.Cond.methodLink "AisleScheduler$Task" (3 : Nat) ({ cls := "java/lang/Object", name := "<init>", desc := "()V" } : Jvm.MethodName)) ∈ am_TB := am_tb1 151 (by decide +kernel) (by decide +kernel)
theorem nd_95 : (Jvm.Cond.methodLinkNest "AisleScheduler$Robot" (11 : Nat) ({ cls := "AisleScheduler$Plan", name := "<init>", desc := "()V" } : Jvm.MethodName) "AisleScheduler") ∈ am_NB := am_nb1 95 (by decide +kernel) (by decide +kernel)
theorem ci_X4_11 : aq_CIN RX4 11 "AisleScheduler" yX2_init cX2_init 1 := ⟨nd_95, wd_96, wd_5, wd_97, rfl⟩
theorem cw_X1_24 : am_CV RX1 24 RX1 yX1_empty cX1_empty 3 none := ⟨wd_46, wd_47, wd_48, wd_3, wd_49, rfl⟩
abbrev rm_X7_init : Room := { frames := 1, cells := 0, slots := 0, locals := 40 }
theorem yn_X7_init : am_yn yX7_init 0 := ⟨⟨by decide +kernel, by decide +kernel⟩, by decide +kernel⟩
set_option maxHeartbeats 4000000 in
set_option maxRecDepth 100000 in
theorem ct_X7 (l : Launch) (D : va_G) (E : Nat → ClassId) (z : Nat) (t : Nat) (hL : ∀ (i : Nat) (k9 : Nat × Nat), aq_K7[i]? = some k9 → am_ly (t + i) = k9) (M : am_M) (U : Nat → List Nat) (hf0 : aq_fr M U t) : aq_Mc l yX7_init cX7_init 1 rm_X7_init D E z [.ref (z + t)] M (aq_up U t []) (t + 1) 0 0 M U (t + 1) := by
  refine aq_of (own := RX7) (by decide +kernel) rfl (by exact Nat.le_of_ble_eq_true rfl) ?_
  intro p e s m args below meth c F hr hmn hAO hsz
  show aq_W p l e rm_X7_init s m args below meth c _ 1 D E z 0 0 M (aq_up U t []) (t + 1) 0 [(0, .ref (z + t))] []
  have hL0 : am_ly t = (7, 0) := hL 0 _ rfl
  refine aq_aload_n F 0 dX7_init_0 rfl rfl ?_
  refine aq_objInit F wd_151 (Nat.le_of_ble_eq_true rfl) (Nat.le_of_ble_eq_true rfl) dX7_init_1 ?_
  exact aq_vret F hr ⟨Nat.le_of_ble_eq_true rfl, Nat.le_of_ble_eq_true rfl⟩ rfl (by rw [aq_up_id (U := U) (r := t) (v := []) ((hf0 t (by omega)).1)]) rfl dX7_init_4
abbrev rm_X2_init : Room := { frames := 1, cells := 2, slots := 61, locals := 40 }
theorem yn_X2_init : am_yn yX2_init 0 := ⟨⟨by decide +kernel, by decide +kernel⟩, by decide +kernel⟩
set_option maxHeartbeats 4000000 in
set_option maxRecDepth 100000 in
theorem ct_X2 (l : Launch) (D : va_G) (E : Nat → ClassId) (z : Nat) (t : Nat) (hL : ∀ (i : Nat) (k9 : Nat × Nat), aq_K2[i]? = some k9 → am_ly (t + i) = k9) (M : am_M) (U : Nat → List Nat) (hf0 : aq_fr M U t) : aq_Mc l yX2_init cX2_init 1 rm_X2_init D E z [.ref (z + t)] M (aq_up U t [0, 1]) (t + 1) 2 61 M U (t + 3) := by
  refine aq_of (own := RX2) (by decide +kernel) rfl (by exact Nat.le_of_ble_eq_true rfl) ?_
  intro p e s m args below meth c F hr hmn hAO hsz
  show aq_W p l e rm_X2_init s m args below meth c _ 1 D E z 0 0 M (aq_up U t [0, 1]) (t + 1) 0 [(0, .ref (z + t))] []
  have hL0 : am_ly t = (2, 0) := hL 0 _ rfl
  refine aq_aload_n F 0 dX2_init_0 rfl rfl ?_
  refine aq_objInit F wd_98 (Nat.le_of_ble_eq_true rfl) (Nat.le_of_ble_eq_true rfl) dX2_init_1 ?_
  refine aq_aload_n F 0 dX2_init_4 rfl rfl ?_
  refine aq_bipush F (v := (30 : Int32)) dX2_init_5 (by decide) ?_
  refine aq_newa (n := (t + 1)) F (atype := .int) (ty := .int) 0 (hL 1 _ rfl) (by decide) rfl ((show (aq_up U t [0, 1]) (t + 1) = U (t + 1) from by simp [aq_up]).trans (hf0 (t + 1) (by omega)).1) aq_wa20 rfl (fun _ h => h) (aq_cell20 (hf0 (t + 1) (by omega)).2.1) rfl (by decide) (by decide) (Nat.le_of_ble_eq_true rfl) ⟨Nat.le_of_ble_eq_true rfl, Nat.le_of_ble_eq_true rfl⟩ dX2_init_7 ?_
  refine aq_putR F hmn (rest := [1]) (T := TX2) (N := 5) in_X2 tyX2 tyX2_ok nmX2 hL0 (by omega) (by decide) rfl 0 (by decide) rfl rfl rfl wd_99 (ty := (.array .int)) (by decide +kernel) rfl rfl (by rw [aq_mask_len]; exact Nat.le_of_ble_eq_true rfl) (by rw [(show (aq_up U t [0, 1]) t = [0, 1] from by simp [aq_up])]; exact aq_mask_set (by decide) rfl) dX2_init_9 ?_
  rw [aq_up_up]
  refine aq_aload_n F 0 dX2_init_12 rfl rfl ?_
  refine aq_bipush F (v := (31 : Int32)) dX2_init_13 (by decide) ?_
  refine aq_newa (n := (t + 2)) F (atype := .int) (ty := .int) 0 (hL 2 _ rfl) (by decide) rfl ((show (aq_up U t [1]) (t + 2) = U (t + 2) from by simp [aq_up]).trans (hf0 (t + 2) (by omega)).1) aq_wa20 rfl (fun _ h => h) (aq_cell20 (hf0 (t + 2) (by omega)).2.1) rfl (by decide) (by decide) (Nat.le_of_ble_eq_true rfl) ⟨Nat.le_of_ble_eq_true rfl, Nat.le_of_ble_eq_true rfl⟩ dX2_init_15 ?_
  refine aq_putR F hmn (rest := []) (T := TX2) (N := 5) in_X2 tyX2 tyX2_ok nmX2 hL0 (by omega) (by decide) rfl 1 (by decide) rfl rfl rfl wd_100 (ty := (.array .int)) (by decide +kernel) rfl rfl (by rw [aq_mask_len]; exact Nat.le_of_ble_eq_true rfl) (by rw [(show (aq_up U t [1]) t = [1] from by simp [aq_up])]; exact aq_mask_set (by decide) rfl) dX2_init_17 ?_
  rw [aq_up_up]
  exact aq_vret F hr ⟨Nat.le_of_ble_eq_true rfl, Nat.le_of_ble_eq_true rfl⟩ rfl (by rw [aq_up_id (U := U) (r := t) (v := []) ((hf0 t (by omega)).1)]) rfl dX2_init_20
abbrev rm_X4_init : Room := { frames := 2, cells := 4, slots := 71, locals := 60 }
theorem yn_X4_init : am_yn yX4_init 0 := ⟨⟨by decide +kernel, by decide +kernel⟩, by decide +kernel⟩
set_option maxHeartbeats 4000000 in
set_option maxRecDepth 100000 in
theorem ct_X4 (l : Launch) (D : va_G) (E : Nat → ClassId) (z : Nat) (t : Nat) (hL : ∀ (i : Nat) (k9 : Nat × Nat), aq_K4[i]? = some k9 → am_ly (t + i) = k9) (M : am_M) (U : Nat → List Nat) (hf0 : aq_fr M U t) : aq_Mc l yX4_init cX4_init 1 rm_X4_init D E z [.ref (z + t)] M (aq_up U t [0, 1]) (t + 1) 4 71 M U (t + 5) := by
  refine aq_of (own := RX4) (by decide +kernel) rfl (by exact Nat.le_of_ble_eq_true rfl) ?_
  intro p e s m args below meth c F hr hmn hAO hsz
  show aq_W p l e rm_X4_init s m args below meth c _ 1 D E z 0 0 M (aq_up U t [0, 1]) (t + 1) 0 [(0, .ref (z + t))] []
  have hL0 : am_ly t = (4, 0) := hL 0 _ rfl
  refine aq_aload_n F 0 dX4_init_0 rfl rfl ?_
  refine aq_objInit F wd_92 (Nat.le_of_ble_eq_true rfl) (Nat.le_of_ble_eq_true rfl) dX4_init_1 ?_
  refine aq_aload_n F 0 dX4_init_4 rfl rfl ?_
  refine aq_new (n := (t + 1)) F (T := TX2) (N := 5) in_X2 tyX2 tyX2_ok nmX2 (hL 1 _ rfl) (by decide) rfl [0, 1] wd_93 wd_94 wd_5 (aq_def_2 (hf0 (t + 1) (by omega)).2.1) ⟨Nat.le_of_ble_eq_true rfl, Nat.le_of_ble_eq_true rfl⟩ dX4_init_5 ?_
  refine aq_dup F dX4_init_8 rfl ?_
  refine aq_callIN F hAO [] ci_X4_11 (ct_X2 l D E z (t + 1) (aq_sub_4_1 hL) M (aq_up U t [0, 1]) (aq_fr_up (aq_fr.mono hf0 (by omega)) (by omega))) yn_X2_init rfl ⟨Nat.le_of_ble_eq_true rfl, Nat.le_of_ble_eq_true rfl⟩ rfl rfl (Nat.le_of_ble_eq_true rfl) ⟨Nat.le_of_ble_eq_true rfl, Nat.le_of_ble_eq_true rfl⟩ dX4_init_9 rfl ?_
  refine aq_putR F hmn (rest := [1]) (T := TX4) (N := 5) in_X4 tyX4 tyX4_ok nmX4 hL0 (by omega) (by decide) rfl 0 (by decide) rfl rfl rfl wd_120 (ty := (.object "AisleScheduler$Plan")) (by decide +kernel) rfl rfl (by rw [aq_mask_len]; exact Nat.le_of_ble_eq_true rfl) (by rw [(show (aq_up U t [0, 1]) t = [0, 1] from by simp [aq_up])]; exact aq_mask_set (by decide) rfl) dX4_init_12 ?_
  rw [aq_up_up]
  refine aq_aload_n F 0 dX4_init_15 rfl rfl ?_
  refine aq_iconst F (v := (5 : Int32)) dX4_init_16 (by decide) ?_
  refine aq_newa (n := (t + 4)) F (atype := .int) (ty := .int) 0 (hL 4 _ rfl) (by decide) rfl ((show (aq_up U t [1]) (t + 4) = U (t + 4) from by simp [aq_up]).trans (hf0 (t + 4) (by omega)).1) aq_wa20 rfl (fun _ h => h) (aq_cell20 (hf0 (t + 4) (by omega)).2.1) rfl (by decide) (by decide) (Nat.le_of_ble_eq_true rfl) ⟨Nat.le_of_ble_eq_true rfl, Nat.le_of_ble_eq_true rfl⟩ dX4_init_17 ?_
  refine aq_putR F hmn (rest := []) (T := TX4) (N := 5) in_X4 tyX4 tyX4_ok nmX4 hL0 (by omega) (by decide) rfl 1 (by decide) rfl rfl rfl wd_125 (ty := (.array .int)) (by decide +kernel) rfl rfl (by rw [aq_mask_len]; exact Nat.le_of_ble_eq_true rfl) (by rw [(show (aq_up U t [1]) t = [1] from by simp [aq_up])]; exact aq_mask_set (by decide) rfl) dX4_init_19 ?_
  rw [aq_up_up]
  exact aq_vret F hr ⟨Nat.le_of_ble_eq_true rfl, Nat.le_of_ble_eq_true rfl⟩ rfl (by rw [aq_up_id (U := U) (r := t) (v := []) ((hf0 t (by omega)).1)]) rfl dX4_init_22
abbrev rm_X1_init : Room := { frames := 3, cells := 4, slots := 364, locals := 68 }
theorem yn_X1_init : am_yn yX1_init 0 := ⟨⟨by decide +kernel, by decide +kernel⟩, by decide +kernel⟩
set_option maxHeartbeats 4000000 in
set_option maxRecDepth 100000 in
theorem ct_X1 (l : Launch) (D : va_G) (E : Nat → ClassId) (z : Nat) (t : Nat) (hL : ∀ (i : Nat) (k9 : Nat × Nat), aq_K1[i]? = some k9 → am_ly (t + i) = k9) (M : am_M) (U : Nat → List Nat) (hf0 : aq_fr M U t) (M1 : am_M) (he1 : g_X1_empty t M = some ((), M1)) : aq_Mc l yX1_init cX1_init 1 rm_X1_init D E z [.ref (z + t)] M (aq_up U t [0, 1, 2, 4]) (t + 1) 4 364 M1 U (t + 5) := by
  refine aq_of (own := RX1) (by decide +kernel) rfl (by exact Nat.le_of_ble_eq_true rfl) ?_
  intro p e s m args below meth c F hr hmn hAO hsz
  show aq_W p l e rm_X1_init s m args below meth c _ 1 D E z 0 0 M (aq_up U t [0, 1, 2, 4]) (t + 1) 0 [(0, .ref (z + t))] []
  have hL0 : am_ly t = (1, 0) := hL 0 _ rfl
  refine aq_aload_n F 0 dX1_init_0 rfl rfl ?_
  refine aq_objInit F wd_45 (Nat.le_of_ble_eq_true rfl) (Nat.le_of_ble_eq_true rfl) dX1_init_1 ?_
  refine aq_aload_n F 0 dX1_init_4 rfl rfl ?_
  refine aq_bipush F (v := (40 : Int32)) dX1_init_5 (by decide) ?_
  refine aq_newa (n := (t + 1)) F (atype := .int) (ty := .int) 0 (hL 1 _ rfl) (by decide) rfl ((show (aq_up U t [0, 1, 2, 4]) (t + 1) = U (t + 1) from by simp [aq_up]).trans (hf0 (t + 1) (by omega)).1) aq_wa20 rfl (fun _ h => h) (aq_cell20 (hf0 (t + 1) (by omega)).2.1) rfl (by decide) (by decide) (Nat.le_of_ble_eq_true rfl) ⟨Nat.le_of_ble_eq_true rfl, Nat.le_of_ble_eq_true rfl⟩ dX1_init_7 ?_
  refine aq_putR F hmn (rest := [1, 2, 4]) (T := TX1) (N := 5) in_X1 tyX1 tyX1_ok nmX1 hL0 (by omega) (by decide) rfl 0 (by decide) rfl rfl rfl wd_59 (ty := (.array .int)) (by decide +kernel) rfl rfl (by rw [aq_mask_len]; exact Nat.le_of_ble_eq_true rfl) (by rw [(show (aq_up U t [0, 1, 2, 4]) t = [0, 1, 2, 4] from by simp [aq_up])]; exact aq_mask_set (by decide) rfl) dX1_init_9 ?_
  rw [aq_up_up]
  refine aq_aload_n F 0 dX1_init_12 rfl rfl ?_
  refine aq_sipush F (v := (280 : Int32)) dX1_init_13 (by decide) ?_
  refine aq_newa (n := (t + 2)) F (atype := .int) (ty := .int) 0 (hL 2 _ rfl) (by decide) rfl ((show (aq_up U t [1, 2, 4]) (t + 2) = U (t + 2) from by simp [aq_up]).trans (hf0 (t + 2) (by omega)).1) aq_wa20 rfl (fun _ h => h) (aq_cell20 (hf0 (t + 2) (by omega)).2.1) rfl (by decide) (by decide) (Nat.le_of_ble_eq_true rfl) ⟨Nat.le_of_ble_eq_true rfl, Nat.le_of_ble_eq_true rfl⟩ dX1_init_16 ?_
  refine aq_putR F hmn (rest := [2, 4]) (T := TX1) (N := 5) in_X1 tyX1 tyX1_ok nmX1 hL0 (by omega) (by decide) rfl 1 (by decide) rfl rfl rfl wd_63 (ty := (.array .int)) (by decide +kernel) rfl rfl (by rw [aq_mask_len]; exact Nat.le_of_ble_eq_true rfl) (by rw [(show (aq_up U t [1, 2, 4]) t = [1, 2, 4] from by simp [aq_up])]; exact aq_mask_set (by decide) rfl) dX1_init_18 ?_
  rw [aq_up_up]
  refine aq_aload_n F 0 dX1_init_21 rfl rfl ?_
  refine aq_iconst F (v := (4 : Int32)) dX1_init_22 (by decide) ?_
  refine aq_newa (n := (t + 3)) F (atype := .int) (ty := .int) 0 (hL 3 _ rfl) (by decide) rfl ((show (aq_up U t [2, 4]) (t + 3) = U (t + 3) from by simp [aq_up]).trans (hf0 (t + 3) (by omega)).1) aq_wa20 rfl (fun _ h => h) (aq_cell20 (hf0 (t + 3) (by omega)).2.1) rfl (by decide) (by decide) (Nat.le_of_ble_eq_true rfl) ⟨Nat.le_of_ble_eq_true rfl, Nat.le_of_ble_eq_true rfl⟩ dX1_init_23 ?_
  refine aq_putR F hmn (rest := [4]) (T := TX1) (N := 5) in_X1 tyX1 tyX1_ok nmX1 hL0 (by omega) (by decide) rfl 2 (by decide) rfl rfl rfl wd_65 (ty := (.array .int)) (by decide +kernel) rfl rfl (by rw [aq_mask_len]; exact Nat.le_of_ble_eq_true rfl) (by rw [(show (aq_up U t [2, 4]) t = [2, 4] from by simp [aq_up])]; exact aq_mask_set (by decide) rfl) dX1_init_25 ?_
  rw [aq_up_up]
  refine aq_aload_n F 0 dX1_init_28 rfl rfl ?_
  refine aq_bipush F (v := (40 : Int32)) dX1_init_29 (by decide) ?_
  refine aq_newa (n := (t + 4)) F (atype := .int) (ty := .int) 0 (hL 4 _ rfl) (by decide) rfl ((show (aq_up U t [4]) (t + 4) = U (t + 4) from by simp [aq_up]).trans (hf0 (t + 4) (by omega)).1) aq_wa20 rfl (fun _ h => h) (aq_cell20 (hf0 (t + 4) (by omega)).2.1) rfl (by decide) (by decide) (Nat.le_of_ble_eq_true rfl) ⟨Nat.le_of_ble_eq_true rfl, Nat.le_of_ble_eq_true rfl⟩ dX1_init_31 ?_
  refine aq_putR F hmn (rest := []) (T := TX1) (N := 5) in_X1 tyX1 tyX1_ok nmX1 hL0 (by omega) (by decide) rfl 4 (by decide) rfl rfl rfl wd_71 (ty := (.array .int)) (by decide +kernel) rfl rfl (by rw [aq_mask_len]; exact Nat.le_of_ble_eq_true rfl) (by rw [(show (aq_up U t [4]) t = [4] from by simp [aq_up])]; exact aq_mask_set (by decide) rfl) dX1_init_33 ?_
  rw [aq_up_up]
  refine aq_aload_n F 0 dX1_init_36 rfl rfl ?_
  refine aq_callVv F hAO [] hL0 (by omega) (by decide) rfl cw_X1_24 (cq_X1_empty l D E z (aq_up U t []) (t + 5) t hL0 (by omega) (show (aq_up U t []) t = [] from by simp [aq_up]) M M1 he1) yn_X1_empty rfl ⟨Nat.le_of_ble_eq_true rfl, Nat.le_of_ble_eq_true rfl⟩ rfl rfl (Nat.le_of_ble_eq_true rfl) ⟨Nat.le_of_ble_eq_true rfl, Nat.le_of_ble_eq_true rfl⟩ dX1_init_37 rfl ?_
  exact aq_vret F hr ⟨Nat.le_of_ble_eq_true rfl, Nat.le_of_ble_eq_true rfl⟩ rfl (by rw [aq_up_id (U := U) (r := t) (v := []) ((hf0 t (by omega)).1)]) rfl dX1_init_40
