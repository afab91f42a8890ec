/-! the constructors -/
def aq_K1 : List (Nat × Nat) := [(1, 0), (20, 40), (20, 280), (20, 4), (20, 40)]
def aq_K2 : List (Nat × Nat) := [(2, 0), (20, 30), (20, 31)]
def aq_K4 : List (Nat × Nat) := [(4, 0), (2, 0), (20, 30), (20, 31), (20, 5)]
def aq_K7 : List (Nat × Nat) := [(7, 0)]
def aq_K8 : List (Nat × Nat) := [(8, 0), (1, 0), (20, 40), (20, 280), (20, 4), (20, 40), (20, 40), (22, 5), (23, 12), (4, 0), (2, 0), (20, 30), (20, 31), (20, 5), (7, 0), (4, 0), (2, 0), (20, 30), (20, 31), (20, 5), (4, 0), (2, 0), (20, 30), (20, 31), (20, 5), (4, 0), (2, 0), (20, 30), (20, 31), (20, 5), (4, 0), (2, 0), (20, 30), (20, 31), (20, 5), (4, 0), (2, 0), (20, 30), (20, 31), (20, 5), (7, 0), (7, 0), (7, 0), (7, 0), (7, 0), (7, 0), (7, 0), (7, 0), (7, 0), (7, 0), (7, 0), (7, 0)]
theorem aq_sub_4_1 {t : Nat} (hL : ∀ (i : Nat) (k9 : Nat × Nat), aq_K4[i]? = some k9 → am_ly (t + i) = k9) : ∀ (i : Nat) (k9 : Nat × Nat), aq_K2[i]? = some k9 → am_ly (t + 1 + i) = k9 := by
  intro i k9 hk
  have hi : i < 3 := by
    have := (List.getElem?_eq_some_iff.mp hk).1
    exact this
  rw [Nat.add_assoc]
  refine hL (1 + i) k9 ?_
  rw [← hk]
  have h9 : ∀ j, j < 3 → aq_K4[1 + j]? = aq_K2[j]? := by decide +kernel
  exact h9 i hi
theorem aq_sub_8_1 {t : Nat} (hL : ∀ (i : Nat) (k9 : Nat × Nat), aq_K8[i]? = some k9 → am_ly (t + i) = k9) : ∀ (i : Nat) (k9 : Nat × Nat), aq_K1[i]? = some k9 → am_ly (t + 1 + i) = k9 := by
  intro i k9 hk
  have hi : i < 5 := by
    have := (List.getElem?_eq_some_iff.mp hk).1
    exact this
  rw [Nat.add_assoc]
  refine hL (1 + i) k9 ?_
  rw [← hk]
  have h9 : ∀ j, j < 5 → aq_K8[1 + j]? = aq_K1[j]? := by decide +kernel
  exact h9 i hi
theorem aq_sub_8_9 {t : Nat} (hL : ∀ (i : Nat) (k9 : Nat × Nat), aq_K8[i]? = some k9 → am_ly (t + i) = k9) : ∀ (i : Nat) (k9 : Nat × Nat), aq_K4[i]? = some k9 → am_ly (t + 9 + i) = k9 := by
  intro i k9 hk
  have hi : i < 5 := by
    have := (List.getElem?_eq_some_iff.mp hk).1
    exact this
  rw [Nat.add_assoc]
  refine hL (9 + i) k9 ?_
  rw [← hk]
  have h9 : ∀ j, j < 5 → aq_K8[9 + j]? = aq_K4[j]? := by decide +kernel
  exact h9 i hi
theorem aq_sub_8_14 {t : Nat} (hL : ∀ (i : Nat) (k9 : Nat × Nat), aq_K8[i]? = some k9 → am_ly (t + i) = k9) : ∀ (i : Nat) (k9 : Nat × Nat), aq_K7[i]? = some k9 → am_ly (t + 14 + i) = k9 := by
  intro i k9 hk
  have hi : i < 1 := by
    have := (List.getElem?_eq_some_iff.mp hk).1
    exact this
  rw [Nat.add_assoc]
  refine hL (14 + i) k9 ?_
  rw [← hk]
  have h9 : ∀ j, j < 1 → aq_K8[14 + j]? = aq_K7[j]? := by decide +kernel
  exact h9 i hi
theorem aq_sub_8_15 {t : Nat} (hL : ∀ (i : Nat) (k9 : Nat × Nat), aq_K8[i]? = some k9 → am_ly (t + i) = k9) : ∀ (i : Nat) (k9 : Nat × Nat), aq_K4[i]? = some k9 → am_ly (t + 15 + i) = k9 := by
  intro i k9 hk
  have hi : i < 5 := by
    have := (List.getElem?_eq_some_iff.mp hk).1
    exact this
  rw [Nat.add_assoc]
  refine hL (15 + i) k9 ?_
  rw [← hk]
  have h9 : ∀ j, j < 5 → aq_K8[15 + j]? = aq_K4[j]? := by decide +kernel
  exact h9 i hi
theorem aq_sub_8_20 {t : Nat} (hL : ∀ (i : Nat) (k9 : Nat × Nat), aq_K8[i]? = some k9 → am_ly (t + i) = k9) : ∀ (i : Nat) (k9 : Nat × Nat), aq_K4[i]? = some k9 → am_ly (t + 20 + i) = k9 := by
  intro i k9 hk
  have hi : i < 5 := by
    have := (List.getElem?_eq_some_iff.mp hk).1
    exact this
  rw [Nat.add_assoc]
  refine hL (20 + i) k9 ?_
  rw [← hk]
  have h9 : ∀ j, j < 5 → aq_K8[20 + j]? = aq_K4[j]? := by decide +kernel
  exact h9 i hi
theorem aq_sub_8_25 {t : Nat} (hL : ∀ (i : Nat) (k9 : Nat × Nat), aq_K8[i]? = some k9 → am_ly (t + i) = k9) : ∀ (i : Nat) (k9 : Nat × Nat), aq_K4[i]? = some k9 → am_ly (t + 25 + i) = k9 := by
  intro i k9 hk
  have hi : i < 5 := by
    have := (List.getElem?_eq_some_iff.mp hk).1
    exact this
  rw [Nat.add_assoc]
  refine hL (25 + i) k9 ?_
  rw [← hk]
  have h9 : ∀ j, j < 5 → aq_K8[25 + j]? = aq_K4[j]? := by decide +kernel
  exact h9 i hi
theorem aq_sub_8_30 {t : Nat} (hL : ∀ (i : Nat) (k9 : Nat × Nat), aq_K8[i]? = some k9 → am_ly (t + i) = k9) : ∀ (i : Nat) (k9 : Nat × Nat), aq_K4[i]? = some k9 → am_ly (t + 30 + i) = k9 := by
  intro i k9 hk
  have hi : i < 5 := by
    have := (List.getElem?_eq_some_iff.mp hk).1
    exact this
  rw [Nat.add_assoc]
  refine hL (30 + i) k9 ?_
  rw [← hk]
  have h9 : ∀ j, j < 5 → aq_K8[30 + j]? = aq_K4[j]? := by decide +kernel
  exact h9 i hi
theorem aq_sub_8_35 {t : Nat} (hL : ∀ (i : Nat) (k9 : Nat × Nat), aq_K8[i]? = some k9 → am_ly (t + i) = k9) : ∀ (i : Nat) (k9 : Nat × Nat), aq_K4[i]? = some k9 → am_ly (t + 35 + i) = k9 := by
  intro i k9 hk
  have hi : i < 5 := by
    have := (List.getElem?_eq_some_iff.mp hk).1
    exact this
  rw [Nat.add_assoc]
  refine hL (35 + i) k9 ?_
  rw [← hk]
  have h9 : ∀ j, j < 5 → aq_K8[35 + j]? = aq_K4[j]? := by decide +kernel
  exact h9 i hi
theorem aq_sub_8_40 {t : Nat} (hL : ∀ (i : Nat) (k9 : Nat × Nat), aq_K8[i]? = some k9 → am_ly (t + i) = k9) : ∀ (i : Nat) (k9 : Nat × Nat), aq_K7[i]? = some k9 → am_ly (t + 40 + i) = k9 := by
  intro i k9 hk
  have hi : i < 1 := by
    have := (List.getElem?_eq_some_iff.mp hk).1
    exact this
  rw [Nat.add_assoc]
  refine hL (40 + i) k9 ?_
  rw [← hk]
  have h9 : ∀ j, j < 1 → aq_K8[40 + j]? = aq_K7[j]? := by decide +kernel
  exact h9 i hi
theorem aq_sub_8_41 {t : Nat} (hL : ∀ (i : Nat) (k9 : Nat × Nat), aq_K8[i]? = some k9 → am_ly (t + i) = k9) : ∀ (i : Nat) (k9 : Nat × Nat), aq_K7[i]? = some k9 → am_ly (t + 41 + i) = k9 := by
  intro i k9 hk
  have hi : i < 1 := by
    have := (List.getElem?_eq_some_iff.mp hk).1
    exact this
  rw [Nat.add_assoc]
  refine hL (41 + i) k9 ?_
  rw [← hk]
  have h9 : ∀ j, j < 1 → aq_K8[41 + j]? = aq_K7[j]? := by decide +kernel
  exact h9 i hi
theorem aq_sub_8_42 {t : Nat} (hL : ∀ (i : Nat) (k9 : Nat × Nat), aq_K8[i]? = some k9 → am_ly (t + i) = k9) : ∀ (i : Nat) (k9 : Nat × Nat), aq_K7[i]? = some k9 → am_ly (t + 42 + i) = k9 := by
  intro i k9 hk
  have hi : i < 1 := by
    have := (List.getElem?_eq_some_iff.mp hk).1
    exact this
  rw [Nat.add_assoc]
  refine hL (42 + i) k9 ?_
  rw [← hk]
  have h9 : ∀ j, j < 1 → aq_K8[42 + j]? = aq_K7[j]? := by decide +kernel
  exact h9 i hi
theorem aq_sub_8_43 {t : Nat} (hL : ∀ (i : Nat) (k9 : Nat × Nat), aq_K8[i]? = some k9 → am_ly (t + i) = k9) : ∀ (i : Nat) (k9 : Nat × Nat), aq_K7[i]? = some k9 → am_ly (t + 43 + i) = k9 := by
  intro i k9 hk
  have hi : i < 1 := by
    have := (List.getElem?_eq_some_iff.mp hk).1
    exact this
  rw [Nat.add_assoc]
  refine hL (43 + i) k9 ?_
  rw [← hk]
  have h9 : ∀ j, j < 1 → aq_K8[43 + j]? = aq_K7[j]? := by decide +kernel
  exact h9 i hi
theorem aq_sub_8_44 {t : Nat} (hL : ∀ (i : Nat) (k9 : Nat × Nat), aq_K8[i]? = some k9 → am_ly (t + i) = k9) : ∀ (i : Nat) (k9 : Nat × Nat), aq_K7[i]? = some k9 → am_ly (t + 44 + i) = k9 := by
  intro i k9 hk
  have hi : i < 1 := by
    have := (List.getElem?_eq_some_iff.mp hk).1
    exact this
  rw [Nat.add_assoc]
  refine hL (44 + i) k9 ?_
  rw [← hk]
  have h9 : ∀ j, j < 1 → aq_K8[44 + j]? = aq_K7[j]? := by decide +kernel
  exact h9 i hi
theorem aq_sub_8_45 {t : Nat} (hL : ∀ (i : Nat) (k9 : Nat × Nat), aq_K8[i]? = some k9 → am_ly (t + i) = k9) : ∀ (i : Nat) (k9 : Nat × Nat), aq_K7[i]? = some k9 → am_ly (t + 45 + i) = k9 := by
  intro i k9 hk
  have hi : i < 1 := by
    have := (List.getElem?_eq_some_iff.mp hk).1
    exact this
  rw [Nat.add_assoc]
  refine hL (45 + i) k9 ?_
  rw [← hk]
  have h9 : ∀ j, j < 1 → aq_K8[45 + j]? = aq_K7[j]? := by decide +kernel
  exact h9 i hi
theorem aq_sub_8_46 {t : Nat} (hL : ∀ (i : Nat) (k9 : Nat × Nat), aq_K8[i]? = some k9 → am_ly (t + i) = k9) : ∀ (i : Nat) (k9 : Nat × Nat), aq_K7[i]? = some k9 → am_ly (t + 46 + i) = k9 := by
  intro i k9 hk
  have hi : i < 1 := by
    have := (List.getElem?_eq_some_iff.mp hk).1
    exact this
  rw [Nat.add_assoc]
  refine hL (46 + i) k9 ?_
  rw [← hk]
  have h9 : ∀ j, j < 1 → aq_K8[46 + j]? = aq_K7[j]? := by decide +kernel
  exact h9 i hi
theorem aq_sub_8_47 {t : Nat} (hL : ∀ (i : Nat) (k9 : Nat × Nat), aq_K8[i]? = some k9 → am_ly (t + i) = k9) : ∀ (i : Nat) (k9 : Nat × Nat), aq_K7[i]? = some k9 → am_ly (t + 47 + i) = k9 := by
  intro i k9 hk
  have hi : i < 1 := by
    have := (List.getElem?_eq_some_iff.mp hk).1
    exact this
  rw [Nat.add_assoc]
  refine hL (47 + i) k9 ?_
  rw [← hk]
  have h9 : ∀ j, j < 1 → aq_K8[47 + j]? = aq_K7[j]? := by decide +kernel
  exact h9 i hi
theorem aq_sub_8_48 {t : Nat} (hL : ∀ (i : Nat) (k9 : Nat × Nat), aq_K8[i]? = some k9 → am_ly (t + i) = k9) : ∀ (i : Nat) (k9 : Nat × Nat), aq_K7[i]? = some k9 → am_ly (t + 48 + i) = k9 := by
  intro i k9 hk
  have hi : i < 1 := by
    have := (List.getElem?_eq_some_iff.mp hk).1
    exact this
  rw [Nat.add_assoc]
  refine hL (48 + i) k9 ?_
  rw [← hk]
  have h9 : ∀ j, j < 1 → aq_K8[48 + j]? = aq_K7[j]? := by decide +kernel
  exact h9 i hi
theorem aq_sub_8_49 {t : Nat} (hL : ∀ (i : Nat) (k9 : Nat × Nat), aq_K8[i]? = some k9 → am_ly (t + i) = k9) : ∀ (i : Nat) (k9 : Nat × Nat), aq_K7[i]? = some k9 → am_ly (t + 49 + i) = k9 := by
  intro i k9 hk
  have hi : i < 1 := by
    have := (List.getElem?_eq_some_iff.mp hk).1
    exact this
  rw [Nat.add_assoc]
  refine hL (49 + i) k9 ?_
  rw [← hk]
  have h9 : ∀ j, j < 1 → aq_K8[49 + j]? = aq_K7[j]? := by decide +kernel
  exact h9 i hi
theorem aq_sub_8_50 {t : Nat} (hL : ∀ (i : Nat) (k9 : Nat × Nat), aq_K8[i]? = some k9 → am_ly (t + i) = k9) : ∀ (i : Nat) (k9 : Nat × Nat), aq_K7[i]? = some k9 → am_ly (t + 50 + i) = k9 := by
  intro i k9 hk
  have hi : i < 1 := by
    have := (List.getElem?_eq_some_iff.mp hk).1
    exact this
  rw [Nat.add_assoc]
  refine hL (50 + i) k9 ?_
  rw [← hk]
  have h9 : ∀ j, j < 1 → aq_K8[50 + j]? = aq_K7[j]? := by decide +kernel
  exact h9 i hi
theorem aq_sub_8_51 {t : Nat} (hL : ∀ (i : Nat) (k9 : Nat × Nat), aq_K8[i]? = some k9 → am_ly (t + i) = k9) : ∀ (i : Nat) (k9 : Nat × Nat), aq_K7[i]? = some k9 → am_ly (t + 51 + i) = k9 := by
  intro i k9 hk
  have hi : i < 1 := by
    have := (List.getElem?_eq_some_iff.mp hk).1
    exact this
  rw [Nat.add_assoc]
  refine hL (51 + i) k9 ?_
  rw [← hk]
  have h9 : ∀ j, j < 1 → aq_K8[51 + j]? = aq_K7[j]? := by decide +kernel
  exact h9 i hi
theorem aq_L2_158 : ∀ (i : Nat) (k9 : Nat × Nat), aq_K2[i]? = some k9 → am_ly (158 + i) = k9 := by
  intro i k9 hk
  have hi : i < 3 := (List.getElem?_eq_some_iff.mp hk).1
  have h9 : ∀ j, j < 3 → aq_K2[j]? = some (am_ly (158 + j)) := by decide +kernel
  exact (Option.some.inj (hk.symm.trans (h9 i hi))).symm
theorem aq_L8_1 : ∀ (i : Nat) (k9 : Nat × Nat), aq_K8[i]? = some k9 → am_ly (1 + i) = k9 := by
  intro i k9 hk
  have hi : i < 52 := (List.getElem?_eq_some_iff.mp hk).1
  have h9 : ∀ j, j < 52 → aq_K8[j]? = some (am_ly (1 + j)) := by decide +kernel
  exact (Option.some.inj (hk.symm.trans (h9 i hi))).symm
theorem aq_L8_53 : ∀ (i : Nat) (k9 : Nat × Nat), aq_K8[i]? = some k9 → am_ly (53 + i) = k9 := by
  intro i k9 hk
  have hi : i < 52 := (List.getElem?_eq_some_iff.mp hk).1
  have h9 : ∀ j, j < 52 → aq_K8[j]? = some (am_ly (53 + j)) := by decide +kernel
  exact (Option.some.inj (hk.symm.trans (h9 i hi))).symm
theorem aq_L8_105 : ∀ (i : Nat) (k9 : Nat × Nat), aq_K8[i]? = some k9 → am_ly (105 + i) = k9 := by
  intro i k9 hk
  have hi : i < 52 := (List.getElem?_eq_some_iff.mp hk).1
  have h9 : ∀ j, j < 52 → aq_K8[j]? = some (am_ly (105 + j)) := by decide +kernel
  exact (Option.some.inj (hk.symm.trans (h9 i hi))).symm
theorem aq_mask_len (l : List Value) (u : List Nat) : (aq_mask l u).length = l.length := by simp [aq_mask]
theorem aq_mask_get {l : List Value} {u : List Nat} {k : Nat} {v : Value} (h : u.contains k = false) (hl : l[k]? = some v) : (aq_mask l u)[k]? = some v := by
  have hk : k < l.length := (List.getElem?_eq_some_iff.mp hl).1
  unfold aq_mask
  rw [List.getElem?_map, List.getElem?_range hk]
  simp only [Option.map_some, h]
  simp [List.getD, hl]
theorem aq_mask_set {l : List Value} {rest : List Nat} {k : Nat} {v : Value} (h : rest.contains k = false) (hl : l[k]? = some v) : (aq_mask l (k :: rest)).set k v = aq_mask l rest := by
  have hk : k < l.length := (List.getElem?_eq_some_iff.mp hl).1
  apply List.ext_getElem?
  intro i
  rw [List.getElem?_set, aq_mask_len]
  by_cases hi : k = i
  · subst hi
    simp only [if_true, hk]
    exact (aq_mask_get h hl).symm
  · simp only [hi, if_false]
    unfold aq_mask
    by_cases h2 : i < l.length
    · rw [List.getElem?_map, List.getElem?_map, List.getElem?_range h2]
      have h3 : (k :: rest).contains i = rest.contains i := by
        rw [List.contains_cons]
        have : (i == k) = false := by simp; omega
        rw [this]; rfl
      simp only [Option.map_some, h3]
    · rw [List.getElem?_eq_none (by simp; omega), List.getElem?_eq_none (by simp; omega)]
theorem aq_fr_s {M : am_M} {U : Nat → List Nat} {n a k : Nat} {v : Int32} (h : aq_fr M U n) (ha : a < n := by omega) : aq_fr (am_s M a k v) U n := fun b hb => ⟨(h b hb).1, fun j => by rw [am_g_o (by omega)]; exact (h b hb).2.1 j, (h b hb).2.2.1, (h b hb).2.2.2⟩
theorem aq_fr_up {M : am_M} {U : Nat → List Nat} {n r : Nat} {v : List Nat} (h : aq_fr M U n) (hr : r < n) : aq_fr M (aq_up U r v) n := fun a ha => ⟨(aq_up_n (by omega)).trans (h a ha).1, (h a ha).2⟩
theorem aq_cell20 {z : Nat} {E : Nat → ClassId} {M : am_M} {n len : Nat} (h : ∀ j, am_g M n j = 0) : vp_cell (E 20) (len, am_av z M n 20) = arrV (E 20) len (fun _ => defaultValue .int) := by
  show arrV _ _ (fun j => .int (am_g M n j)) = _
  exact aq_arrV (fun j _ => by rw [h]; rfl)
theorem aq_cell24 {z : Nat} {E : Nat → ClassId} {M : am_M} {n len : Nat} (h : ∀ j, am_g M n j = 0) : vp_cell (E 24) (len, am_av z M n 24) = arrV (E 24) len (fun _ => defaultValue .boolean) := by
  show arrV _ _ (fun j => .int (am_g M n j)) = _
  exact aq_arrV (fun j _ => by rw [h]; rfl)
theorem aq_cell21 {z : Nat} {E : Nat → ClassId} {M : am_M} {n len : Nat} (h : ∀ j, am_lg M n j = 0) : vp_cell (E 21) (len, am_av z M n 21) = arrV (E 21) len (fun _ => defaultValue .long) := by
  show arrV _ _ (fun j => .long (am_lg M n j)) = _
  exact aq_arrV (fun j _ => by rw [h]; rfl)
theorem aq_cell25 {z : Nat} {E : Nat → ClassId} {M : am_M} {n len : Nat} (h : ∀ j, am_dg M n j = 0) : vp_cell (E 25) (len, am_av z M n 25) = arrV (E 25) len (fun _ => defaultValue .double) := by
  show arrV _ _ (fun j => .double (am_dg M n j)) = _
  exact aq_arrV (fun j _ => by rw [h]; rfl)
theorem aq_wa20 : Cond.arrayClass .int ∈ am_TB := am_tb1 83 (by decide +kernel) (by decide +kernel)
theorem aq_wa21 : Cond.arrayClass .long ∈ am_TB := am_tb1 264 (by decide +kernel) (by decide +kernel)
theorem aq_wa24 : Cond.arrayClass .boolean ∈ am_TB := am_tb1 1359 (by decide +kernel) (by decide +kernel)
theorem aq_wa25 : Cond.arrayClass .double ∈ am_TB := am_tb1 1780 (by decide +kernel) (by decide +kernel)
theorem aq_def_0 {z : Nat} {M : am_M} {n : Nat} (h : ∀ j, am_g M n j = 0) : ∀ j, j < 5 → defaultValue (tyX0 j) = vp_V (aq_mask (am_fs z M n 0) [1, 2, 3, 4, 0]) j := by
  intro j hj
  rw [show aq_mask (am_fs z M n 0) [1, 2, 3, 4, 0] = [.null, .null, .null, .null, .null] from rfl]
  match j, hj with
  | 0, _ => rfl
  | 1, _ => rfl
  | 2, _ => rfl
  | 3, _ => rfl
  | 4, _ => rfl
  | j + 5, h9 => exact absurd h9 (by omega)
theorem aq_def_1 {z : Nat} {M : am_M} {n : Nat} (h : ∀ j, am_g M n j = 0) : ∀ j, j < 5 → defaultValue (tyX1 j) = vp_V (aq_mask (am_fs z M n 1) [0, 1, 2, 4]) j := by
  intro j hj
  rw [show aq_mask (am_fs z M n 1) [0, 1, 2, 4] = [.null, .null, .null, .int (am_g M n 3), .null] from rfl, h 3]
  match j, hj with
  | 0, _ => rfl
  | 1, _ => rfl
  | 2, _ => rfl
  | 3, _ => rfl
  | 4, _ => rfl
  | j + 5, h9 => exact absurd h9 (by omega)
theorem aq_def_2 {z : Nat} {M : am_M} {n : Nat} (h : ∀ j, am_g M n j = 0) : ∀ j, j < 5 → defaultValue (tyX2 j) = vp_V (aq_mask (am_fs z M n 2) [0, 1]) j := by
  intro j hj
  rw [show aq_mask (am_fs z M n 2) [0, 1] = [.null, .null, .int (am_g M n 2), .int (am_g M n 3), .int (am_g M n 4)] from rfl, h 2, h 3, h 4]
  match j, hj with
  | 0, _ => rfl
  | 1, _ => rfl
  | 2, _ => rfl
  | 3, _ => rfl
  | 4, _ => rfl
  | j + 5, h9 => exact absurd h9 (by omega)
theorem aq_def_3 {z : Nat} {M : am_M} {n : Nat} (h : ∀ j, am_g M n j = 0) : ∀ j, j < 3 → defaultValue (tyX3 j) = vp_V (aq_mask (am_fs z M n 3) [2, 0, 1]) j := by
  intro j hj
  rw [show aq_mask (am_fs z M n 3) [2, 0, 1] = [.null, .null, .null] from rfl]
  match j, hj with
  | 0, _ => rfl
  | 1, _ => rfl
  | 2, _ => rfl
  | j + 3, h9 => exact absurd h9 (by omega)
theorem aq_def_4 {z : Nat} {M : am_M} {n : Nat} (h : ∀ j, am_g M n j = 0) : ∀ j, j < 5 → defaultValue (tyX4 j) = vp_V (aq_mask (am_fs z M n 4) [0, 1]) j := by
  intro j hj
  rw [show aq_mask (am_fs z M n 4) [0, 1] = [.null, .null, .int (am_g M n 2), .int (am_g M n 3), .int (am_g M n 4)] from rfl, h 2, h 3, h 4]
  match j, hj with
  | 0, _ => rfl
  | 1, _ => rfl
  | 2, _ => rfl
  | 3, _ => rfl
  | 4, _ => rfl
  | j + 5, h9 => exact absurd h9 (by omega)
theorem aq_def_5 {z : Nat} {M : am_M} {n : Nat} (h : ∀ j, am_g M n j = 0) : ∀ j, j < 8 → defaultValue (tyX5 j) = vp_V (aq_mask (am_fs z M n 5) [2, 3, 4, 5]) j := by
  intro j hj
  rw [show aq_mask (am_fs z M n 5) [2, 3, 4, 5] = [.int (am_g M n 0), .int (am_g M n 1), .null, .null, .null, .null, .int (am_g M n 6), .int (am_g M n 7)] from rfl, h 0, h 1, h 6, h 7]
  match j, hj with
  | 0, _ => rfl
  | 1, _ => rfl
  | 2, _ => rfl
  | 3, _ => rfl
  | 4, _ => rfl
  | 5, _ => rfl
  | 6, _ => rfl
  | 7, _ => rfl
  | j + 8, h9 => exact absurd h9 (by omega)
theorem aq_def_6 {z : Nat} {M : am_M} {n : Nat} (h : ∀ j, am_g M n j = 0) : ∀ j, j < 2 → defaultValue (tyX6 j) = vp_V (aq_mask (am_fs z M n 6) [0, 1]) j := by
  intro j hj
  rw [show aq_mask (am_fs z M n 6) [0, 1] = [.null, .null] from rfl]
  match j, hj with
  | 0, _ => rfl
  | 1, _ => rfl
  | j + 2, h9 => exact absurd h9 (by omega)
theorem aq_def_7 {z : Nat} {M : am_M} {n : Nat} (h : ∀ j, am_g M n j = 0) : ∀ j, j < 9 → defaultValue (tyX7 j) = vp_V (aq_mask (am_fs z M n 7) []) j := by
  intro j hj
  rw [show aq_mask (am_fs z M n 7) [] = [.int (am_g M n 0), .int (am_g M n 1), .int (am_g M n 2), .int (am_g M n 3), .int (am_g M n 4), .int (am_g M n 5), .int (am_g M n 6), .int (am_g M n 7), .int (am_g M n 8)] from rfl, h 0, h 1, h 2, h 3, h 4, h 5, h 6, h 7, h 8]
  match j, hj with
  | 0, _ => rfl
  | 1, _ => rfl
  | 2, _ => rfl
  | 3, _ => rfl
  | 4, _ => rfl
  | 5, _ => rfl
  | 6, _ => rfl
  | 7, _ => rfl
  | 8, _ => rfl
  | j + 9, h9 => exact absurd h9 (by omega)
theorem aq_def_8 {z : Nat} {M : am_M} {n : Nat} (h : ∀ j, am_g M n j = 0) : ∀ j, j < 9 → defaultValue (tyX8 j) = vp_V (aq_mask (am_fs z M n 8) [0, 1, 5, 6, 7, 8]) j := by
  intro j hj
  rw [show aq_mask (am_fs z M n 8) [0, 1, 5, 6, 7, 8] = [.null, .null, .int (am_g M n 2), .int (am_g M n 3), .int (am_g M n 4), .null, .null, .null, .null] from rfl, h 2, h 3, h 4]
  match j, hj with
  | 0, _ => rfl
  | 1, _ => rfl
  | 2, _ => rfl
  | 3, _ => rfl
  | 4, _ => rfl
  | 5, _ => rfl
  | 6, _ => rfl
  | 7, _ => rfl
  | 8, _ => rfl
  | j + 9, h9 => exact absurd h9 (by omega)
theorem aq_def_9 {z : Nat} {M : am_M} {n : Nat} (h : ∀ j, am_g M n j = 0) : ∀ j, j < 8 → defaultValue (tyX9 j) = vp_V (aq_mask (am_fs z M n 9) [0, 1, 2, 3, 4, 5]) j := by
  intro j hj
  rw [show aq_mask (am_fs z M n 9) [0, 1, 2, 3, 4, 5] = [.null, .null, .null, .null, .null, .null, .int (am_g M n 6), .int (am_g M n 7)] from rfl, h 6, h 7]
  match j, hj with
  | 0, _ => rfl
  | 1, _ => rfl
  | 2, _ => rfl
  | 3, _ => rfl
  | 4, _ => rfl
  | 5, _ => rfl
  | 6, _ => rfl
  | 7, _ => rfl
  | j + 8, h9 => exact absurd h9 (by omega)
theorem aq_def_10 {z : Nat} {M : am_M} {n : Nat} (h : ∀ j, am_g M n j = 0) : ∀ j, j < 21 → defaultValue (tyX10 j) = vp_V (aq_mask (am_fs z M n 10) [1, 2, 3, 5, 6, 9, 10, 12, 13, 14, 18]) j := by
  intro j hj
  rw [show aq_mask (am_fs z M n 10) [1, 2, 3, 5, 6, 9, 10, 12, 13, 14, 18] = [.int (am_g M n 0), .null, .null, .null, .int (am_g M n 4), .null, .null, .int (am_g M n 7), .int (am_g M n 8), .null, .null, .int (am_g M n 11), .null, .null, .null, .int (am_g M n 15), .int (am_g M n 16), .int (am_g M n 17), .null, .int (am_g M n 19), .int (am_g M n 20)] from rfl, h 0, h 4, h 7, h 8, h 11, h 15, h 16, h 17, h 19, h 20]
  match j, hj with
  | 0, _ => rfl
  | 1, _ => rfl
  | 2, _ => rfl
  | 3, _ => rfl
  | 4, _ => rfl
  | 5, _ => rfl
  | 6, _ => rfl
  | 7, _ => rfl
  | 8, _ => rfl
  | 9, _ => rfl
  | 10, _ => rfl
  | 11, _ => rfl
  | 12, _ => rfl
  | 13, _ => rfl
  | 14, _ => rfl
  | 15, _ => rfl
  | 16, _ => rfl
  | 17, _ => rfl
  | 18, _ => rfl
  | 19, _ => rfl
  | 20, _ => rfl
  | j + 21, h9 => exact absurd h9 (by omega)
theorem wd_31 : (Jvm.Cond.methodLink "AisleScheduler" (3 : Nat) ({ cls := "java/lang/Object", name := "<init>", desc := "()V" } : Jvm.MethodName)) ∈ am_TB := am_tb1 31 (by decide +kernel) (by decide +kernel)
theorem wd_34 : (Jvm.Cond.classLink "AisleScheduler" (9 : Nat) "AisleScheduler$World") ∈ am_TB := am_tb1 34 (by decide +kernel) (by decide +kernel)
theorem wd_35 : (Jvm.Cond.instantiable "AisleScheduler$World" (9 : Nat)) ∈ am_TB := am_tb1 35 (by decide +kernel) (by decide +kernel)
theorem wd_36 : (Jvm.Cond.methodLink "AisleScheduler" (11 : Nat) ({ cls := "AisleScheduler$World", name := "<init>", desc := "()V" } : Jvm.MethodName)) ∈ am_TB := am_tb1 36 (by decide +kernel) (by decide +kernel)
theorem wd_37 : (Jvm.Cond.instanceMethod ({ cls := "AisleScheduler$World", name := "<init>", desc := "()V" } : Jvm.MethodName)) ∈ am_TB := am_tb1 37 (by decide +kernel) (by decide +kernel)
theorem wd_38 : (Jvm.Cond.code ({ cls := "AisleScheduler$World", name := "<init>", desc := "()V" } : Jvm.MethodName) prog_10_method_1_code (2 : Nat) (Option.none : Option Jvm.ClassFile.FieldType)) ∈ am_TB := am_tb1 38 (by decide +kernel) (by decide +kernel)
theorem wd_39 : (Jvm.Cond.methodLink "AisleScheduler$World" (3 : Nat) ({ cls := "java/lang/Object", name := "<init>", desc := "()V" } : Jvm.MethodName)) ∈ am_TB := am_tb1 39 (by decide +kernel) (by decide +kernel)
theorem wd_40 : (Jvm.Cond.classLink "AisleScheduler$World" (9 : Nat) "AisleScheduler$Floor") ∈ am_TB := am_tb1 40 (by decide +kernel) (by decide +kernel)
theorem wd_41 : (Jvm.Cond.instantiable "AisleScheduler$Floor" (5 : Nat)) ∈ am_TB := am_tb1 41 (by decide +kernel) (by decide +kernel)
theorem wd_42 : (Jvm.Cond.methodLink "AisleScheduler$World" (11 : Nat) ({ cls := "AisleScheduler$Floor", name := "<init>", desc := "()V" } : Jvm.MethodName)) ∈ am_TB := am_tb1 42 (by decide +kernel) (by decide +kernel)
theorem wd_43 : (Jvm.Cond.instanceMethod ({ cls := "AisleScheduler$Floor", name := "<init>", desc := "()V" } : Jvm.MethodName)) ∈ am_TB := am_tb1 43 (by decide +kernel) (by decide +kernel)
theorem wd_44 : (Jvm.Cond.code ({ cls := "AisleScheduler$Floor", name := "<init>", desc := "()V" } : Jvm.MethodName) prog_3_method_1_code (1 : Nat) (Option.none : Option Jvm.ClassFile.FieldType)) ∈ am_TB := am_tb1 44 (by decide +kernel) (by decide +kernel)
theorem wd_45 : (Jvm.Cond.methodLink "AisleScheduler$Floor" (3 : Nat) ({ cls := "java/lang/Object", name := "<init>", desc := "()V" } : Jvm.MethodName)) ∈ am_TB := am_tb1 45 (by decide +kernel) (by decide +kernel)
theorem wd_46 : (Jvm.Cond.methodLink "AisleScheduler$Floor" (24 : Nat) ({ cls := "AisleScheduler$Floor", name := "empty", desc := "()V" } : Jvm.MethodName)) ∈ am_TB := am_tb1 46 (by decide +kernel) (by decide +kernel)
theorem wd_84 : (Jvm.Cond.classLink "AisleScheduler$World" (22 : Nat) "AisleScheduler$Robot") ∈ am_TB := am_tb1 84 (by decide +kernel) (by decide +kernel)
theorem wd_86 : (Jvm.Cond.classLink "AisleScheduler$World" (28 : Nat) "AisleScheduler$Task") ∈ am_TB := am_tb1 86 (by decide +kernel) (by decide +kernel)
theorem wd_88 : (Jvm.Cond.instantiable "AisleScheduler$Robot" (5 : Nat)) ∈ am_TB := am_tb1 88 (by decide +kernel) (by decide +kernel)
theorem wd_90 : (Jvm.Cond.instanceMethod ({ cls := "AisleScheduler$Robot", name := "<init>", desc := "()V" } : Jvm.MethodName)) ∈ am_TB := am_tb1 90 (by decide +kernel) (by decide +kernel)
theorem wd_91 : (Jvm.Cond.code ({ cls := "AisleScheduler$Robot", name := "<init>", desc := "()V" } : Jvm.MethodName) prog_6_method_1_code (1 : Nat) (Option.none : Option Jvm.ClassFile.FieldType)) ∈ am_TB := am_tb1 91 (by decide +kernel) (by decide +kernel)
theorem wd_92 : (Jvm.Cond.methodLink "AisleScheduler$Robot" (3 : Nat) ({ cls := "java/lang/Object", name := "<init>", desc := "()V" } : Jvm.MethodName)) ∈ am_TB := am_tb1 92 (by decide +kernel) (by decide +kernel)
theorem wd_93 : (Jvm.Cond.classLink "AisleScheduler$Robot" (9 : Nat) "AisleScheduler$Plan") ∈ am_TB := am_tb1 93 (by decide +kernel) (by decide +kernel)
theorem wd_94 : (Jvm.Cond.instantiable "AisleScheduler$Plan" (5 : Nat)) ∈ am_TB := am_tb1 94 (by decide +kernel) (by decide +kernel)
theorem wd_96 : (Jvm.Cond.instanceMethod ({ cls := "AisleScheduler$Plan", name := "<init>", desc := "()V" } : Jvm.MethodName)) ∈ am_TB := am_tb1 96 (by decide +kernel) (by decide +kernel)
theorem wd_97 : (Jvm.Cond.code ({ cls := "AisleScheduler$Plan", name := "<init>", desc := "()V" } : Jvm.MethodName) prog_4_method_1_code (1 : Nat) (Option.none : Option Jvm.ClassFile.FieldType)) ∈ am_TB := am_tb1 97 (by decide +kernel) (by decide +kernel)
theorem wd_98 : (Jvm.Cond.methodLink "AisleScheduler$Plan" (3 : Nat) ({ cls := "java/lang/Object", name := "<init>", desc := "()V" } : Jvm.MethodName)) ∈ am_TB := am_tb1 98 (by decide +kernel) (by decide +kernel)
theorem wd_147 : (Jvm.Cond.instantiable "AisleScheduler$Task" (9 : Nat)) ∈ am_TB := am_tb1 147 (by decide +kernel) (by decide +kernel)
theorem wd_149 : (Jvm.Cond.instanceMethod ({ cls := "AisleScheduler$Task", name := "<init>", desc := "()V" } : Jvm.MethodName)) ∈ am_TB := am_tb1 149 (by decide +kernel) (by decide +kernel)
theorem wd_150 : (Jvm.Cond.code ({ cls := "AisleScheduler$Task", name := "<init>", desc := "()V" } : Jvm.MethodName) prog_9_method_1_code (1 : Nat) (Option.none : Option Jvm.ClassFile.FieldType)) ∈ am_TB := am_tb1 150 (by decide +kernel) (by decide +kernel)
theorem wd_151 : (Jvm.Cond.methodLink "AisleScheduler$Task" (3 : Nat) ({ cls := "java/lang/Object", name := "<init>", desc := "()V" } : Jvm.MethodName)) ∈ am_TB := am_tb1 151 (by decide +kernel) (by decide +kernel)
theorem wd_234 : (Jvm.Cond.classLink "AisleScheduler" (22 : Nat) "AisleScheduler$Planner") ∈ am_TB := am_tb1 234 (by decide +kernel) (by decide +kernel)
theorem wd_235 : (Jvm.Cond.instantiable "AisleScheduler$Planner" (3 : Nat)) ∈ am_TB := am_tb1 235 (by decide +kernel) (by decide +kernel)
theorem wd_236 : (Jvm.Cond.methodLink "AisleScheduler" (24 : Nat) ({ cls := "AisleScheduler$Planner", name := "<init>", desc := "(LAisleScheduler$World;)V" } : Jvm.MethodName)) ∈ am_TB := am_tb1 236 (by decide +kernel) (by decide +kernel)
theorem wd_237 : (Jvm.Cond.instanceMethod ({ cls := "AisleScheduler$Planner", name := "<init>", desc := "(LAisleScheduler$World;)V" } : Jvm.MethodName)) ∈ am_TB := am_tb1 237 (by decide +kernel) (by decide +kernel)
theorem wd_238 : (Jvm.Cond.code ({ cls := "AisleScheduler$Planner", name := "<init>", desc := "(LAisleScheduler$World;)V" } : Jvm.MethodName) prog_5_method_1_code (2 : Nat) (Option.none : Option Jvm.ClassFile.FieldType)) ∈ am_TB := am_tb1 238 (by decide +kernel) (by decide +kernel)
theorem wd_239 : (Jvm.Cond.methodLink "AisleScheduler$Planner" (3 : Nat) ({ cls := "java/lang/Object", name := "<init>", desc := "()V" } : Jvm.MethodName)) ∈ am_TB := am_tb1 239 (by decide +kernel) (by decide +kernel)
theorem wd_240 : (Jvm.Cond.classLink "AisleScheduler$Planner" (9 : Nat) "AisleScheduler$Plan") ∈ am_TB := am_tb1 240 (by decide +kernel) (by decide +kernel)
theorem wd_242 : (Jvm.Cond.classLink "AisleScheduler$Planner" (22 : Nat) "AisleScheduler$Finder") ∈ am_TB := am_tb1 242 (by decide +kernel) (by decide +kernel)
theorem wd_243 : (Jvm.Cond.instantiable "AisleScheduler$Finder" (5 : Nat)) ∈ am_TB := am_tb1 243 (by decide +kernel) (by decide +kernel)
theorem wd_244 : (Jvm.Cond.methodLink "AisleScheduler$Planner" (30 : Nat) ({ cls := "AisleScheduler$Finder", name := "<init>", desc := "(LAisleScheduler$Floor;)V" } : Jvm.MethodName)) ∈ am_TB := am_tb1 244 (by decide +kernel) (by decide +kernel)
theorem wd_245 : (Jvm.Cond.instanceMethod ({ cls := "AisleScheduler$Finder", name := "<init>", desc := "(LAisleScheduler$Floor;)V" } : Jvm.MethodName)) ∈ am_TB := am_tb1 245 (by decide +kernel) (by decide +kernel)
theorem wd_246 : (Jvm.Cond.code ({ cls := "AisleScheduler$Finder", name := "<init>", desc := "(LAisleScheduler$Floor;)V" } : Jvm.MethodName) prog_2_method_1_code (2 : Nat) (Option.none : Option Jvm.ClassFile.FieldType)) ∈ am_TB := am_tb1 246 (by decide +kernel) (by decide +kernel)
theorem wd_247 : (Jvm.Cond.methodLink "AisleScheduler$Finder" (3 : Nat) ({ cls := "java/lang/Object", name := "<init>", desc := "()V" } : Jvm.MethodName)) ∈ am_TB := am_tb1 247 (by decide +kernel) (by decide +kernel)
theorem wd_276 : (Jvm.Cond.classLink "AisleScheduler" (31 : Nat) "AisleScheduler$Shelves") ∈ am_TB := am_tb1 276 (by decide +kernel) (by decide +kernel)
theorem wd_277 : (Jvm.Cond.instantiable "AisleScheduler$Shelves" (2 : Nat)) ∈ am_TB := am_tb1 277 (by decide +kernel) (by decide +kernel)
theorem wd_279 : (Jvm.Cond.instanceMethod ({ cls := "AisleScheduler$Shelves", name := "<init>", desc := "()V" } : Jvm.MethodName)) ∈ am_TB := am_tb1 279 (by decide +kernel) (by decide +kernel)
theorem wd_280 : (Jvm.Cond.code ({ cls := "AisleScheduler$Shelves", name := "<init>", desc := "()V" } : Jvm.MethodName) prog_8_method_1_code (1 : Nat) (Option.none : Option Jvm.ClassFile.FieldType)) ∈ am_TB := am_tb1 280 (by decide +kernel) (by decide +kernel)
theorem wd_281 : (Jvm.Cond.methodLink "AisleScheduler$Shelves" (3 : Nat) ({ cls := "java/lang/Object", name := "<init>", desc := "()V" } : Jvm.MethodName)) ∈ am_TB := am_tb1 281 (by decide +kernel) (by decide +kernel)
theorem wd_291 : (Jvm.Cond.classLink "AisleScheduler" (38 : Nat) "AisleScheduler$Script") ∈ am_TB := am_tb1 291 (by decide +kernel) (by decide +kernel)
theorem wd_292 : (Jvm.Cond.instantiable "AisleScheduler$Script" (8 : Nat)) ∈ am_TB := am_tb1 292 (by decide +kernel) (by decide +kernel)
theorem wd_294 : (Jvm.Cond.instanceMethod ({ cls := "AisleScheduler$Script", name := "<init>", desc := "()V" } : Jvm.MethodName)) ∈ am_TB := am_tb1 294 (by decide +kernel) (by decide +kernel)
theorem wd_295 : (Jvm.Cond.code ({ cls := "AisleScheduler$Script", name := "<init>", desc := "()V" } : Jvm.MethodName) prog_7_method_1_code (1 : Nat) (Option.none : Option Jvm.ClassFile.FieldType)) ∈ am_TB := am_tb1 295 (by decide +kernel) (by decide +kernel)
theorem wd_296 : (Jvm.Cond.methodLink "AisleScheduler$Script" (3 : Nat) ({ cls := "java/lang/Object", name := "<init>", desc := "()V" } : Jvm.MethodName)) ∈ am_TB := am_tb1 296 (by decide +kernel) (by decide +kernel)
theorem wd_1294 : (Jvm.Cond.methodLink "AisleSchedulerModel" (1 : Nat) ({ cls := "java/lang/Object", name := "<init>", desc := "()V" } : Jvm.MethodName)) ∈ am_TB := am_tb1 1294 (by decide +kernel) (by decide +kernel)
theorem nd_89 : (Jvm.Cond.methodLinkNest "AisleScheduler$World" (34 : Nat) ({ cls := "AisleScheduler$Robot", name := "<init>", desc := "()V" } : Jvm.MethodName) "AisleScheduler") ∈ am_NB := am_nb1 89 (by decide +kernel) (by decide +kernel)
theorem nd_95 : (Jvm.Cond.methodLinkNest "AisleScheduler$Robot" (11 : Nat) ({ cls := "AisleScheduler$Plan", name := "<init>", desc := "()V" } : Jvm.MethodName) "AisleScheduler") ∈ am_NB := am_nb1 95 (by decide +kernel) (by decide +kernel)
theorem nd_148 : (Jvm.Cond.methodLinkNest "AisleScheduler$World" (39 : Nat) ({ cls := "AisleScheduler$Task", name := "<init>", desc := "()V" } : Jvm.MethodName) "AisleScheduler") ∈ am_NB := am_nb1 148 (by decide +kernel) (by decide +kernel)
theorem nd_241 : (Jvm.Cond.methodLinkNest "AisleScheduler$Planner" (11 : Nat) ({ cls := "AisleScheduler$Plan", name := "<init>", desc := "()V" } : Jvm.MethodName) "AisleScheduler") ∈ am_NB := am_nb1 241 (by decide +kernel) (by decide +kernel)
theorem nd_278 : (Jvm.Cond.methodLinkNest "AisleScheduler" (33 : Nat) ({ cls := "AisleScheduler$Shelves", name := "<init>", desc := "()V" } : Jvm.MethodName) "AisleScheduler") ∈ am_NB := am_nb1 278 (by decide +kernel) (by decide +kernel)
theorem nd_293 : (Jvm.Cond.methodLinkNest "AisleScheduler" (40 : Nat) ({ cls := "AisleScheduler$Script", name := "<init>", desc := "()V" } : Jvm.MethodName) "AisleScheduler") ∈ am_NB := am_nb1 293 (by decide +kernel) (by decide +kernel)
theorem ci_X3_11 : aq_CIN RX3 11 "AisleScheduler" yX2_init cX2_init 1 := ⟨nd_241, wd_96, wd_5, wd_97, rfl⟩
theorem ci_X3_30 : aq_CI RX3 30 yX0_init cX0_init 2 := ⟨wd_244, wd_245, wd_8, wd_246, rfl⟩
theorem ci_X4_11 : aq_CIN RX4 11 "AisleScheduler" yX2_init cX2_init 1 := ⟨nd_95, wd_96, wd_5, wd_97, rfl⟩
theorem ci_X8_11 : aq_CI RX8 11 yX1_init cX1_init 1 := ⟨wd_42, wd_43, wd_3, wd_44, rfl⟩
theorem ci_X8_34 : aq_CIN RX8 34 "AisleScheduler" yX4_init cX4_init 1 := ⟨nd_89, wd_90, wd_4, wd_91, rfl⟩
theorem ci_X8_39 : aq_CIN RX8 39 "AisleScheduler" yX7_init cX7_init 1 := ⟨nd_148, wd_149, wd_6, wd_150, rfl⟩
theorem ci_X9_11 : aq_CI RX9 11 yX8_init cX8_init 2 := ⟨wd_36, wd_37, wd_2, wd_38, rfl⟩
theorem ci_X9_24 : aq_CI RX9 24 yX3_init cX3_init 2 := ⟨wd_236, wd_237, wd_7, wd_238, rfl⟩
theorem ci_X9_33 : aq_CIN RX9 33 "AisleScheduler" yX6_init cX6_init 1 := ⟨nd_278, wd_279, wd_9, wd_280, rfl⟩
theorem ci_X9_40 : aq_CIN RX9 40 "AisleScheduler" yX5_init cX5_init 1 := ⟨nd_293, wd_294, wd_10, wd_295, rfl⟩
theorem cw_X1_24 : am_CV RX1 24 RX1 yX1_empty cX1_empty 3 none := ⟨wd_46, wd_47, wd_48, wd_3, wd_49, rfl⟩
abbrev rm_X7_init : Room := { frames := 1, cells := 0, slots := 0, locals := 40 }
theorem yn_X7_init : am_yn yX7_init 0 := ⟨⟨by decide +kernel, by decide +kernel⟩, by decide +kernel⟩
set_option maxHeartbeats 4000000 in
set_option maxRecDepth 100000 in
theorem ct_X7 (l : Launch) (D : va_G) (E : Nat → ClassId) (z : Nat) (t : Nat) (hL : ∀ (i : Nat) (k9 : Nat × Nat), aq_K7[i]? = some k9 → am_ly (t + i) = k9) (M : am_M) (U : Nat → List Nat) (hf0 : aq_fr M U t) : aq_Mc l yX7_init cX7_init 1 rm_X7_init D E z [.ref (z + t)] M (aq_up U t []) (t + 1) 0 0 M U (t + 1) := by
  refine aq_of (own := RX7) (by decide +kernel) rfl (by exact Nat.le_of_ble_eq_true rfl) ?_
  intro p e s m args below meth c F hr hmn hAO hsz
  show aq_W p l e rm_X7_init s m args below meth c _ 1 D E z 0 0 M (aq_up U t []) (t + 1) 0 [(0, .ref (z + t))] []
  have hL0 : am_ly t = (7, 0) := hL 0 _ rfl
  refine aq_aload_n F 0 dX7_init_0 rfl rfl ?_
  refine aq_objInit F wd_151 (Nat.le_of_ble_eq_true rfl) (Nat.le_of_ble_eq_true rfl) dX7_init_1 ?_
  exact aq_vret F hr ⟨Nat.le_of_ble_eq_true rfl, Nat.le_of_ble_eq_true rfl⟩ rfl (by rw [aq_up_id (U := U) (r := t) (v := []) ((hf0 t (by omega)).1)]) rfl dX7_init_4
abbrev rm_X2_init : Room := { frames := 1, cells := 2, slots := 61, locals := 40 }
theorem yn_X2_init : am_yn yX2_init 0 := ⟨⟨by decide +kernel, by decide +kernel⟩, by decide +kernel⟩
set_option maxHeartbeats 4000000 in
set_option maxRecDepth 100000 in
theorem ct_X2 (l : Launch) (D : va_G) (E : Nat → ClassId) (z : Nat) (t : Nat) (hL : ∀ (i : Nat) (k9 : Nat × Nat), aq_K2[i]? = some k9 → am_ly (t + i) = k9) (M : am_M) (U : Nat → List Nat) (hf0 : aq_fr M U t) : aq_Mc l yX2_init cX2_init 1 rm_X2_init D E z [.ref (z + t)] M (aq_up U t [0, 1]) (t + 1) 2 61 M U (t + 3) := by
  refine aq_of (own := RX2) (by decide +kernel) rfl (by exact Nat.le_of_ble_eq_true rfl) ?_
  intro p e s m args below meth c F hr hmn hAO hsz
  show aq_W p l e rm_X2_init s m args below meth c _ 1 D E z 0 0 M (aq_up U t [0, 1]) (t + 1) 0 [(0, .ref (z + t))] []
  have hL0 : am_ly t = (2, 0) := hL 0 _ rfl
  refine aq_aload_n F 0 dX2_init_0 rfl rfl ?_
  refine aq_objInit F wd_98 (Nat.le_of_ble_eq_true rfl) (Nat.le_of_ble_eq_true rfl) dX2_init_1 ?_
  refine aq_aload_n F 0 dX2_init_4 rfl rfl ?_
  refine aq_bipush F (v := (30 : Int32)) dX2_init_5 (by decide) ?_
  refine aq_newa (n := (t + 1)) F (atype := .int) (ty := .int) 0 (hL 1 _ rfl) (by decide) rfl ((show (aq_up U t [0, 1]) (t + 1) = U (t + 1) from by simp [aq_up]).trans (hf0 (t + 1) (by omega)).1) aq_wa20 rfl (fun _ h => h) (aq_cell20 (hf0 (t + 1) (by omega)).2.1) rfl (by decide) (by decide) (Nat.le_of_ble_eq_true rfl) ⟨Nat.le_of_ble_eq_true rfl, Nat.le_of_ble_eq_true rfl⟩ dX2_init_7 ?_
  refine aq_putR F hmn (rest := [1]) (T := TX2) (N := 5) in_X2 tyX2 tyX2_ok nmX2 hL0 (by omega) (by decide) rfl 0 (by decide) rfl rfl rfl wd_99 (ty := (.array .int)) (by decide +kernel) rfl rfl (by rw [aq_mask_len]; exact Nat.le_of_ble_eq_true rfl) (by rw [(show (aq_up U t [0, 1]) t = [0, 1] from by simp [aq_up])]; exact aq_mask_set (by decide) rfl) dX2_init_9 ?_
  rw [aq_up_up]
  refine aq_aload_n F 0 dX2_init_12 rfl rfl ?_
  refine aq_bipush F (v := (31 : Int32)) dX2_init_13 (by decide) ?_
  refine aq_newa (n := (t + 2)) F (atype := .int) (ty := .int) 0 (hL 2 _ rfl) (by decide) rfl ((show (aq_up U t [1]) (t + 2) = U (t + 2) from by simp [aq_up]).trans (hf0 (t + 2) (by omega)).1) aq_wa20 rfl (fun _ h => h) (aq_cell20 (hf0 (t + 2) (by omega)).2.1) rfl (by decide) (by decide) (Nat.le_of_ble_eq_true rfl) ⟨Nat.le_of_ble_eq_true rfl, Nat.le_of_ble_eq_true rfl⟩ dX2_init_15 ?_
  refine aq_putR F hmn (rest := []) (T := TX2) (N := 5) in_X2 tyX2 tyX2_ok nmX2 hL0 (by omega) (by decide) rfl 1 (by decide) rfl rfl rfl wd_100 (ty := (.array .int)) (by decide +kernel) rfl rfl (by rw [aq_mask_len]; exact Nat.le_of_ble_eq_true rfl) (by rw [(show (aq_up U t [1]) t = [1] from by simp [aq_up])]; exact aq_mask_set (by decide) rfl) dX2_init_17 ?_
  rw [aq_up_up]
  exact aq_vret F hr ⟨Nat.le_of_ble_eq_true rfl, Nat.le_of_ble_eq_true rfl⟩ rfl (by rw [aq_up_id (U := U) (r := t) (v := []) ((hf0 t (by omega)).1)]) rfl dX2_init_20
abbrev rm_X4_init : Room := { frames := 2, cells := 4, slots := 71, locals := 60 }
theorem yn_X4_init : am_yn yX4_init 0 := ⟨⟨by decide +kernel, by decide +kernel⟩, by decide +kernel⟩
set_option maxHeartbeats 4000000 in
set_option maxRecDepth 100000 in
theorem ct_X4 (l : Launch) (D : va_G) (E : Nat → ClassId) (z : Nat) (t : Nat) (hL : ∀ (i : Nat) (k9 : Nat × Nat), aq_K4[i]? = some k9 → am_ly (t + i) = k9) (M : am_M) (U : Nat → List Nat) (hf0 : aq_fr M U t) : aq_Mc l yX4_init cX4_init 1 rm_X4_init D E z [.ref (z + t)] M (aq_up U t [0, 1]) (t + 1) 4 71 M U (t + 5) := by
  refine aq_of (own := RX4) (by decide +kernel) rfl (by exact Nat.le_of_ble_eq_true rfl) ?_
  intro p e s m args below meth c F hr hmn hAO hsz
  show aq_W p l e rm_X4_init s m args below meth c _ 1 D E z 0 0 M (aq_up U t [0, 1]) (t + 1) 0 [(0, .ref (z + t))] []
  have hL0 : am_ly t = (4, 0) := hL 0 _ rfl
  refine aq_aload_n F 0 dX4_init_0 rfl rfl ?_
  refine aq_objInit F wd_92 (Nat.le_of_ble_eq_true rfl) (Nat.le_of_ble_eq_true rfl) dX4_init_1 ?_
  refine aq_aload_n F 0 dX4_init_4 rfl rfl ?_
  refine aq_new (n := (t + 1)) F (T := TX2) (N := 5) in_X2 tyX2 tyX2_ok nmX2 (hL 1 _ rfl) (by decide) rfl [0, 1] wd_93 wd_94 wd_5 (aq_def_2 (hf0 (t + 1) (by omega)).2.1) ⟨Nat.le_of_ble_eq_true rfl, Nat.le_of_ble_eq_true rfl⟩ dX4_init_5 ?_
  refine aq_dup F dX4_init_8 rfl ?_
  refine aq_callIN F hAO [] ci_X4_11 (ct_X2 l D E z (t + 1) (aq_sub_4_1 hL) M (aq_up U t [0, 1]) (aq_fr_up (aq_fr.mono hf0 (by omega)) (by omega))) yn_X2_init rfl ⟨Nat.le_of_ble_eq_true rfl, Nat.le_of_ble_eq_true rfl⟩ rfl rfl (Nat.le_of_ble_eq_true rfl) ⟨Nat.le_of_ble_eq_true rfl, Nat.le_of_ble_eq_true rfl⟩ dX4_init_9 rfl ?_
  refine aq_putR F hmn (rest := [1]) (T := TX4) (N := 5) in_X4 tyX4 tyX4_ok nmX4 hL0 (by omega) (by decide) rfl 0 (by decide) rfl rfl rfl wd_120 (ty := (.object "AisleScheduler$Plan")) (by decide +kernel) rfl rfl (by rw [aq_mask_len]; exact Nat.le_of_ble_eq_true rfl) (by rw [(show (aq_up U t [0, 1]) t = [0, 1] from by simp [aq_up])]; exact aq_mask_set (by decide) rfl) dX4_init_12 ?_
  rw [aq_up_up]
  refine aq_aload_n F 0 dX4_init_15 rfl rfl ?_
  refine aq_iconst F (v := (5 : Int32)) dX4_init_16 (by decide) ?_
  refine aq_newa (n := (t + 4)) F (atype := .int) (ty := .int) 0 (hL 4 _ rfl) (by decide) rfl ((show (aq_up U t [1]) (t + 4) = U (t + 4) from by simp [aq_up]).trans (hf0 (t + 4) (by omega)).1) aq_wa20 rfl (fun _ h => h) (aq_cell20 (hf0 (t + 4) (by omega)).2.1) rfl (by decide) (by decide) (Nat.le_of_ble_eq_true rfl) ⟨Nat.le_of_ble_eq_true rfl, Nat.le_of_ble_eq_true rfl⟩ dX4_init_17 ?_
  refine aq_putR F hmn (rest := []) (T := TX4) (N := 5) in_X4 tyX4 tyX4_ok nmX4 hL0 (by omega) (by decide) rfl 1 (by decide) rfl rfl rfl wd_125 (ty := (.array .int)) (by decide +kernel) rfl rfl (by rw [aq_mask_len]; exact Nat.le_of_ble_eq_true rfl) (by rw [(show (aq_up U t [1]) t = [1] from by simp [aq_up])]; exact aq_mask_set (by decide) rfl) dX4_init_19 ?_
  rw [aq_up_up]
  exact aq_vret F hr ⟨Nat.le_of_ble_eq_true rfl, Nat.le_of_ble_eq_true rfl⟩ rfl (by rw [aq_up_id (U := U) (r := t) (v := []) ((hf0 t (by omega)).1)]) rfl dX4_init_22
abbrev rm_X1_init : Room := { frames := 3, cells := 4, slots := 364, locals := 68 }
theorem yn_X1_init : am_yn yX1_init 0 := ⟨⟨by decide +kernel, by decide +kernel⟩, by decide +kernel⟩
set_option maxHeartbeats 4000000 in
set_option maxRecDepth 100000 in
theorem ct_X1 (l : Launch) (D : va_G) (E : Nat → ClassId) (z : Nat) (t : Nat) (hL : ∀ (i : Nat) (k9 : Nat × Nat), aq_K1[i]? = some k9 → am_ly (t + i) = k9) (M : am_M) (U : Nat → List Nat) (hf0 : aq_fr M U t) (M1 : am_M) (he1 : g_X1_empty t M = some ((), M1)) : aq_Mc l yX1_init cX1_init 1 rm_X1_init D E z [.ref (z + t)] M (aq_up U t [0, 1, 2, 4]) (t + 1) 4 364 M1 U (t + 5) := by
  refine aq_of (own := RX1) (by decide +kernel) rfl (by exact Nat.le_of_ble_eq_true rfl) ?_
  intro p e s m args below meth c F hr hmn hAO hsz
  show aq_W p l e rm_X1_init s m args below meth c _ 1 D E z 0 0 M (aq_up U t [0, 1, 2, 4]) (t + 1) 0 [(0, .ref (z + t))] []
  have hL0 : am_ly t = (1, 0) := hL 0 _ rfl
  refine aq_aload_n F 0 dX1_init_0 rfl rfl ?_
  refine aq_objInit F wd_45 (Nat.le_of_ble_eq_true rfl) (Nat.le_of_ble_eq_true rfl) dX1_init_1 ?_
  refine aq_aload_n F 0 dX1_init_4 rfl rfl ?_
  refine aq_bipush F (v := (40 : Int32)) dX1_init_5 (by decide) ?_
  refine aq_newa (n := (t + 1)) F (atype := .int) (ty := .int) 0 (hL 1 _ rfl) (by decide) rfl ((show (aq_up U t [0, 1, 2, 4]) (t + 1) = U (t + 1) from by simp [aq_up]).trans (hf0 (t + 1) (by omega)).1) aq_wa20 rfl (fun _ h => h) (aq_cell20 (hf0 (t + 1) (by omega)).2.1) rfl (by decide) (by decide) (Nat.le_of_ble_eq_true rfl) ⟨Nat.le_of_ble_eq_true rfl, Nat.le_of_ble_eq_true rfl⟩ dX1_init_7 ?_
  refine aq_putR F hmn (rest := [1, 2, 4]) (T := TX1) (N := 5) in_X1 tyX1 tyX1_ok nmX1 hL0 (by omega) (by decide) rfl 0 (by decide) rfl rfl rfl wd_59 (ty := (.array .int)) (by decide +kernel) rfl rfl (by rw [aq_mask_len]; exact Nat.le_of_ble_eq_true rfl) (by rw [(show (aq_up U t [0, 1, 2, 4]) t = [0, 1, 2, 4] from by simp [aq_up])]; exact aq_mask_set (by decide) rfl) dX1_init_9 ?_
  rw [aq_up_up]
  refine aq_aload_n F 0 dX1_init_12 rfl rfl ?_
  refine aq_sipush F (v := (280 : Int32)) dX1_init_13 (by decide) ?_
  refine aq_newa (n := (t + 2)) F (atype := .int) (ty := .int) 0 (hL 2 _ rfl) (by decide) rfl ((show (aq_up U t [1, 2, 4]) (t + 2) = U (t + 2) from by simp [aq_up]).trans (hf0 (t + 2) (by omega)).1) aq_wa20 rfl (fun _ h => h) (aq_cell20 (hf0 (t + 2) (by omega)).2.1) rfl (by decide) (by decide) (Nat.le_of_ble_eq_true rfl) ⟨Nat.le_of_ble_eq_true rfl, Nat.le_of_ble_eq_true rfl⟩ dX1_init_16 ?_
  refine aq_putR F hmn (rest := [2, 4]) (T := TX1) (N := 5) in_X1 tyX1 tyX1_ok nmX1 hL0 (by omega) (by decide) rfl 1 (by decide) rfl rfl rfl wd_63 (ty := (.array .int)) (by decide +kernel) rfl rfl (by rw [aq_mask_len]; exact Nat.le_of_ble_eq_true rfl) (by rw [(show (aq_up U t [1, 2, 4]) t = [1, 2, 4] from by simp [aq_up])]; exact aq_mask_set (by decide) rfl) dX1_init_18 ?_
  rw [aq_up_up]
  refine aq_aload_n F 0 dX1_init_21 rfl rfl ?_
  refine aq_iconst F (v := (4 : Int32)) dX1_init_22 (by decide) ?_
  refine aq_newa (n := (t + 3)) F (atype := .int) (ty := .int) 0 (hL 3 _ rfl) (by decide) rfl ((show (aq_up U t [2, 4]) (t + 3) = U (t + 3) from by simp [aq_up]).trans (hf0 (t + 3) (by omega)).1) aq_wa20 rfl (fun _ h => h) (aq_cell20 (hf0 (t + 3) (by omega)).2.1) rfl (by decide) (by decide) (Nat.le_of_ble_eq_true rfl) ⟨Nat.le_of_ble_eq_true rfl, Nat.le_of_ble_eq_true rfl⟩ dX1_init_23 ?_
  refine aq_putR F hmn (rest := [4]) (T := TX1) (N := 5) in_X1 tyX1 tyX1_ok nmX1 hL0 (by omega) (by decide) rfl 2 (by decide) rfl rfl rfl wd_65 (ty := (.array .int)) (by decide +kernel) rfl rfl (by rw [aq_mask_len]; exact Nat.le_of_ble_eq_true rfl) (by rw [(show (aq_up U t [2, 4]) t = [2, 4] from by simp [aq_up])]; exact aq_mask_set (by decide) rfl) dX1_init_25 ?_
  rw [aq_up_up]
  refine aq_aload_n F 0 dX1_init_28 rfl rfl ?_
  refine aq_bipush F (v := (40 : Int32)) dX1_init_29 (by decide) ?_
  refine aq_newa (n := (t + 4)) F (atype := .int) (ty := .int) 0 (hL 4 _ rfl) (by decide) rfl ((show (aq_up U t [4]) (t + 4) = U (t + 4) from by simp [aq_up]).trans (hf0 (t + 4) (by omega)).1) aq_wa20 rfl (fun _ h => h) (aq_cell20 (hf0 (t + 4) (by omega)).2.1) rfl (by decide) (by decide) (Nat.le_of_ble_eq_true rfl) ⟨Nat.le_of_ble_eq_true rfl, Nat.le_of_ble_eq_true rfl⟩ dX1_init_31 ?_
  refine aq_putR F hmn (rest := []) (T := TX1) (N := 5) in_X1 tyX1 tyX1_ok nmX1 hL0 (by omega) (by decide) rfl 4 (by decide) rfl rfl rfl wd_71 (ty := (.array .int)) (by decide +kernel) rfl rfl (by rw [aq_mask_len]; exact Nat.le_of_ble_eq_true rfl) (by rw [(show (aq_up U t [4]) t = [4] from by simp [aq_up])]; exact aq_mask_set (by decide) rfl) dX1_init_33 ?_
  rw [aq_up_up]
  refine aq_aload_n F 0 dX1_init_36 rfl rfl ?_
  refine aq_callVv F hAO [] hL0 (by omega) (by decide) rfl cw_X1_24 (cq_X1_empty l D E z (aq_up U t []) (t + 5) t hL0 (by omega) (show (aq_up U t []) t = [] from by simp [aq_up]) M M1 he1) yn_X1_empty rfl ⟨Nat.le_of_ble_eq_true rfl, Nat.le_of_ble_eq_true rfl⟩ rfl rfl (Nat.le_of_ble_eq_true rfl) ⟨Nat.le_of_ble_eq_true rfl, Nat.le_of_ble_eq_true rfl⟩ dX1_init_37 rfl ?_
  exact aq_vret F hr ⟨Nat.le_of_ble_eq_true rfl, Nat.le_of_ble_eq_true rfl⟩ rfl (by rw [aq_up_id (U := U) (r := t) (v := []) ((hf0 t (by omega)).1)]) rfl dX1_init_40
abbrev rm_X8_init : Room := { frames := 4, cells := 51, slots := 999, locals := 88 }
theorem yn_X8_init : am_yn yX8_init 0 := ⟨⟨by decide +kernel, by decide +kernel⟩, by decide +kernel⟩
set_option maxHeartbeats 4000000 in
set_option maxRecDepth 100000 in
theorem ct_X8 (l : Launch) (D : va_G) (E : Nat → ClassId) (z : Nat) (t : Nat) (hL : ∀ (i : Nat) (k9 : Nat × Nat), aq_K8[i]? = some k9 → am_ly (t + i) = k9) (M : am_M) (U : Nat → List Nat) (hf0 : aq_fr M U t) (M1 : am_M) (he1 : g_X1_empty (t + 1) M = some ((), M1)) (hg1 : aq_fr M1 U (t + 6)) : aq_Mc l yX8_init cX8_init 2 rm_X8_init D E z [.ref (z + t)] M (aq_up U t [0, 1, 5, 6, 7, 8]) (t + 1) 51 999 M1 U (t + 52) := by
  refine aq_of (own := RX8) (by decide +kernel) rfl (by exact Nat.le_of_ble_eq_true rfl) ?_
  intro p e s m args below meth c F hr hmn hAO hsz
  show aq_W p l e rm_X8_init s m args below meth c _ 2 D E z 0 0 M (aq_up U t [0, 1, 5, 6, 7, 8]) (t + 1) 0 [(0, .ref (z + t))] []
  have hL0 : am_ly t = (8, 0) := hL 0 _ rfl
  refine aq_aload_n F 0 dX8_init_0 rfl rfl ?_
  refine aq_objInit F wd_39 (Nat.le_of_ble_eq_true rfl) (Nat.le_of_ble_eq_true rfl) dX8_init_1 ?_
  refine aq_aload_n F 0 dX8_init_4 rfl rfl ?_
  refine aq_new (n := (t + 1)) F (T := TX1) (N := 5) in_X1 tyX1 tyX1_ok nmX1 (hL 1 _ rfl) (by decide) rfl [0, 1, 2, 4] wd_40 wd_41 wd_3 (aq_def_1 (hf0 (t + 1) (by omega)).2.1) ⟨Nat.le_of_ble_eq_true rfl, Nat.le_of_ble_eq_true rfl⟩ dX8_init_5 ?_
  refine aq_dup F dX8_init_8 rfl ?_
  refine aq_callI F hAO [] ci_X8_11 (ct_X1 l D E z (t + 1) (aq_sub_8_1 hL) M (aq_up U t [0, 1, 5, 6, 7, 8]) (aq_fr_up (aq_fr.mono hf0 (by omega)) (by omega)) M1 he1) yn_X1_init rfl ⟨Nat.le_of_ble_eq_true rfl, Nat.le_of_ble_eq_true rfl⟩ rfl rfl (Nat.le_of_ble_eq_true rfl) ⟨Nat.le_of_ble_eq_true rfl, Nat.le_of_ble_eq_true rfl⟩ dX8_init_9 rfl ?_
  refine aq_putR F hmn (rest := [1, 5, 6, 7, 8]) (T := TX8) (N := 9) in_X8 tyX8 tyX8_ok nmX8 hL0 (by omega) (by decide) rfl 0 (by decide) rfl rfl rfl wd_196 (ty := (.object "AisleScheduler$Floor")) (by decide +kernel) rfl rfl (by rw [aq_mask_len]; exact Nat.le_of_ble_eq_true rfl) (by rw [(show (aq_up U t [0, 1, 5, 6, 7, 8]) t = [0, 1, 5, 6, 7, 8] from by simp [aq_up])]; exact aq_mask_set (by decide) rfl) dX8_init_12 ?_
  rw [aq_up_up]
  refine aq_aload_n F 0 dX8_init_15 rfl rfl ?_
  refine aq_bipush F (v := (40 : Int32)) dX8_init_16 (by decide) ?_
  refine aq_newa (n := (t + 6)) F (atype := .int) (ty := .int) 0 (hL 6 _ rfl) (by decide) rfl ((show (aq_up U t [1, 5, 6, 7, 8]) (t + 6) = U (t + 6) from by simp [aq_up]).trans (hg1 (t + 6) (by omega)).1) aq_wa20 rfl (fun _ h => h) (aq_cell20 (hg1 (t + 6) (by omega)).2.1) rfl (by decide) (by decide) (Nat.le_of_ble_eq_true rfl) ⟨Nat.le_of_ble_eq_true rfl, Nat.le_of_ble_eq_true rfl⟩ dX8_init_18 ?_
  refine aq_putR F hmn (rest := [5, 6, 7, 8]) (T := TX8) (N := 9) in_X8 tyX8 tyX8_ok nmX8 hL0 (by omega) (by decide) rfl 1 (by decide) rfl rfl rfl wd_199 (ty := (.array .int)) (by decide +kernel) rfl rfl (by rw [aq_mask_len]; exact Nat.le_of_ble_eq_true rfl) (by rw [(show (aq_up U t [1, 5, 6, 7, 8]) t = [1, 5, 6, 7, 8] from by simp [aq_up])]; exact aq_mask_set (by decide) rfl) dX8_init_20 ?_
  rw [aq_up_up]
  refine aq_aload_n F 0 dX8_init_23 rfl rfl ?_
  refine aq_iconst F (v := (5 : Int32)) dX8_init_24 (by decide) ?_
  refine aq_anew (n := (t + 7)) F 2 (hL 7 _ rfl) (by decide) [0, 0, 0, 0, 0] (by decide) wd_84 hAO.1 rfl (by decide) (by decide) (Nat.le_of_ble_eq_true rfl) ⟨Nat.le_of_ble_eq_true rfl, Nat.le_of_ble_eq_true rfl⟩ dX8_init_25 ?_
  refine aq_putR F hmn (rest := [6, 7, 8]) (T := TX8) (N := 9) in_X8 tyX8 tyX8_ok nmX8 hL0 (by omega) (by decide) rfl 5 (by decide) rfl rfl rfl wd_211 (ty := (.array (.object "AisleScheduler$Robot"))) (by decide +kernel) rfl rfl (by rw [aq_mask_len]; exact Nat.le_of_ble_eq_true rfl) (by rw [(show (aq_up (aq_up U t [5, 6, 7, 8]) (t + 7) [0, 0, 0, 0, 0]) t = [5, 6, 7, 8] from by simp [aq_up])]; exact aq_mask_set (by decide) rfl) dX8_init_28 ?_
  rw [aq_up_comm (r := (t + 7)) (q := t) (by omega), aq_up_up]
  refine aq_aload_n F 0 dX8_init_31 rfl rfl ?_
  refine aq_bipush F (v := (12 : Int32)) dX8_init_32 (by decide) ?_
  refine aq_anew (n := (t + 8)) F 3 (hL 8 _ rfl) (by decide) [0, 0, 0, 0, 0, 0, 0, 0, 0, 0, 0, 0] (by decide) wd_86 hAO.2 rfl (by decide) (by decide) (Nat.le_of_ble_eq_true rfl) ⟨Nat.le_of_ble_eq_true rfl, Nat.le_of_ble_eq_true rfl⟩ dX8_init_34 ?_
  refine aq_putR F hmn (rest := [7, 8]) (T := TX8) (N := 9) in_X8 tyX8 tyX8_ok nmX8 hL0 (by omega) (by decide) rfl 6 (by decide) rfl rfl rfl wd_212 (ty := (.array (.object "AisleScheduler$Task"))) (by decide +kernel) rfl rfl (by rw [aq_mask_len]; exact Nat.le_of_ble_eq_true rfl) (by rw [(show (aq_up (aq_up (aq_up U t [6, 7, 8]) (t + 7) [0, 0, 0, 0, 0]) (t + 8) [0, 0, 0, 0, 0, 0, 0, 0, 0, 0, 0, 0]) t = [6, 7, 8] from by simp [aq_up])]; exact aq_mask_set (by decide) rfl) dX8_init_37 ?_
  rw [aq_up_comm (r := (t + 8)) (q := t) (by omega), aq_up_comm (r := (t + 7)) (q := t) (by omega), aq_up_up]
  refine aq_aload_n F 0 dX8_init_40 rfl rfl ?_
  refine aq_new (n := (t + 9)) F (T := TX4) (N := 5) in_X4 tyX4 tyX4_ok nmX4 (hL 9 _ rfl) (by decide) rfl [0, 1] wd_84 wd_88 wd_4 (aq_def_4 (hg1 (t + 9) (by omega)).2.1) ⟨Nat.le_of_ble_eq_true rfl, Nat.le_of_ble_eq_true rfl⟩ dX8_init_41 ?_
  refine aq_dup F dX8_init_44 rfl ?_
  refine aq_callIN F hAO [] ci_X8_34 (ct_X4 l D E z (t + 9) (aq_sub_8_9 hL) M1 (aq_up (aq_up (aq_up U t [7, 8]) (t + 7) [0, 0, 0, 0, 0]) (t + 8) [0, 0, 0, 0, 0, 0, 0, 0, 0, 0, 0, 0]) (aq_fr_up (aq_fr_up (aq_fr_up (aq_fr.mono hg1 (by omega)) (by omega)) (by omega)) (by omega))) yn_X4_init rfl ⟨Nat.le_of_ble_eq_true rfl, Nat.le_of_ble_eq_true rfl⟩ rfl rfl (Nat.le_of_ble_eq_true rfl) ⟨Nat.le_of_ble_eq_true rfl, Nat.le_of_ble_eq_true rfl⟩ dX8_init_45 rfl ?_
  refine aq_putR F hmn (rest := [8]) (T := TX8) (N := 9) in_X8 tyX8 tyX8_ok nmX8 hL0 (by omega) (by decide) rfl 7 (by decide) rfl rfl rfl wd_213 (ty := (.object "AisleScheduler$Robot")) (by decide +kernel) rfl rfl (by rw [aq_mask_len]; exact Nat.le_of_ble_eq_true rfl) (by rw [(show (aq_up (aq_up (aq_up U t [7, 8]) (t + 7) [0, 0, 0, 0, 0]) (t + 8) [0, 0, 0, 0, 0, 0, 0, 0, 0, 0, 0, 0]) t = [7, 8] from by simp [aq_up])]; exact aq_mask_set (by decide) rfl) dX8_init_48 ?_
  rw [aq_up_comm (r := (t + 8)) (q := t) (by omega), aq_up_comm (r := (t + 7)) (q := t) (by omega), aq_up_up]
  refine aq_aload_n F 0 dX8_init_51 rfl rfl ?_
  refine aq_new (n := (t + 14)) F (T := TX7) (N := 9) in_X7 tyX7 tyX7_ok nmX7 (hL 14 _ rfl) (by decide) rfl [] wd_86 wd_147 wd_6 (aq_def_7 (hg1 (t + 14) (by omega)).2.1) ⟨Nat.le_of_ble_eq_true rfl, Nat.le_of_ble_eq_true rfl⟩ dX8_init_52 ?_
  refine aq_dup F dX8_init_55 rfl ?_
  refine aq_callIN F hAO [] ci_X8_39 (ct_X7 l D E z (t + 14) (aq_sub_8_14 hL) M1 (aq_up (aq_up (aq_up U t [8]) (t + 7) [0, 0, 0, 0, 0]) (t + 8) [0, 0, 0, 0, 0, 0, 0, 0, 0, 0, 0, 0]) (aq_fr_up (aq_fr_up (aq_fr_up (aq_fr.mono hg1 (by omega)) (by omega)) (by omega)) (by omega))) yn_X7_init rfl ⟨Nat.le_of_ble_eq_true rfl, Nat.le_of_ble_eq_true rfl⟩ rfl rfl (Nat.le_of_ble_eq_true rfl) ⟨Nat.le_of_ble_eq_true rfl, Nat.le_of_ble_eq_true rfl⟩ dX8_init_56 rfl ?_
  refine aq_putR F hmn (rest := []) (T := TX8) (N := 9) in_X8 tyX8 tyX8_ok nmX8 hL0 (by omega) (by decide) rfl 8 (by decide) rfl rfl rfl wd_214 (ty := (.object "AisleScheduler$Task")) (by decide +kernel) rfl rfl (by rw [aq_mask_len]; exact Nat.le_of_ble_eq_true rfl) (by rw [(show (aq_up (aq_up (aq_up U t [8]) (t + 7) [0, 0, 0, 0, 0]) (t + 8) [0, 0, 0, 0, 0, 0, 0, 0, 0, 0, 0, 0]) t = [8] from by simp [aq_up])]; exact aq_mask_set (by decide) rfl) dX8_init_59 ?_
  rw [aq_up_comm (r := (t + 8)) (q := t) (by omega), aq_up_comm (r := (t + 7)) (q := t) (by omega), aq_up_up]
  refine aq_iconst F (v := (0 : Int32)) dX8_init_62 (by decide) ?_
  refine aq_istore_n F [(1, .int (0 : Int32)), (0, .ref (z + t))] dX8_init_63 rfl (by decide) rfl ?_
  refine aq_iload_n F 0 dX8_init_64 rfl rfl ?_
  refine aq_aload_n F 1 dX8_init_65 rfl rfl ?_
  refine aq_get F (T := TX8) (N := 9) in_X8 hL0 (by omega) (by decide) rfl 5 (by decide) rfl wd_211 (v := .ref (z + (t + 7))) (by rw [(show (aq_up (aq_up (aq_up U t []) (t + 7) [0, 0, 0, 0, 0]) (t + 8) [0, 0, 0, 0, 0, 0, 0, 0, 0, 0, 0, 0]) t = [] from by simp [aq_up])]; exact aq_mask_get (by decide) rfl) dX8_init_66 ?_
  refine aq_alen F (hL 7 _ rfl) (by omega) (by decide) (t0 := 2) rfl (v := (5 : Int32)) (by decide) dX8_init_69 ?_
  refine aq_icmp_ge F (tgt := 92) dX8_init_70 (by decide) (fun hc => absurd hc (by decide)) (fun _ => ?_)
  refine aq_aload_n F 1 dX8_init_73 rfl rfl ?_
  refine aq_get F (T := TX8) (N := 9) in_X8 hL0 (by omega) (by decide) rfl 5 (by decide) rfl wd_211 (v := .ref (z + (t + 7))) (by rw [(show (aq_up (aq_up (aq_up U t []) (t + 7) [0, 0, 0, 0, 0]) (t + 8) [0, 0, 0, 0, 0, 0, 0, 0, 0, 0, 0, 0]) t = [] from by simp [aq_up])]; exact aq_mask_get (by decide) rfl) dX8_init_74 ?_
  refine aq_iload_n F 0 dX8_init_77 rfl rfl ?_
  refine aq_new (n := (t + 15)) F (T := TX4) (N := 5) in_X4 tyX4 tyX4_ok nmX4 (hL 15 _ rfl) (by decide) rfl [0, 1] wd_84 wd_88 wd_4 (aq_def_4 (hg1 (t + 15) (by omega)).2.1) ⟨Nat.le_of_ble_eq_true rfl, Nat.le_of_ble_eq_true rfl⟩ dX8_init_78 ?_
  refine aq_dup F dX8_init_81 rfl ?_
  refine aq_callIN F hAO [] ci_X8_34 (ct_X4 l D E z (t + 15) (aq_sub_8_15 hL) M1 (aq_up (aq_up (aq_up U t []) (t + 7) [0, 0, 0, 0, 0]) (t + 8) [0, 0, 0, 0, 0, 0, 0, 0, 0, 0, 0, 0]) (aq_fr_up (aq_fr_up (aq_fr_up (aq_fr.mono hg1 (by omega)) (by omega)) (by omega)) (by omega))) yn_X4_init rfl ⟨Nat.le_of_ble_eq_true rfl, Nat.le_of_ble_eq_true rfl⟩ rfl rfl (Nat.le_of_ble_eq_true rfl) ⟨Nat.le_of_ble_eq_true rfl, Nat.le_of_ble_eq_true rfl⟩ dX8_init_82 rfl ?_
  refine aq_aast F (T := TX4) (N := 5) (C := "AisleScheduler$Robot") 2 [0, 0, 0, 0] (hL 7 _ rfl) (by omega) (hL 15 _ rfl) (by omega) (by decide) rfl (Or.inl ⟨rfl, by rw [show ((0 : Int32)).toNatClampNeg = 0 from by decide]⟩) rfl (by rw [(show (aq_up (aq_up (aq_up U t []) (t + 7) [0, 0, 0, 0, 0]) (t + 8) [0, 0, 0, 0, 0, 0, 0, 0, 0, 0, 0, 0]) (t + 7) = [0, 0, 0, 0, 0] from by simp [aq_up])]; rfl) (by rw [show ((0 : Int32)).toNatClampNeg = 0 from by decide]; rfl) (vp_in_iff.mpr (by decide)) dX8_init_85 ?_
  rw [aq_up_comm (r := (t + 8)) (q := (t + 7)) (by omega), aq_up_up]
  refine aq_iinc F [(1, .int (1 : Int32)), (0, .ref (z + t))] 0 dX8_init_86 (by decide) rfl (by decide) rfl ?_
  refine aq_goto F (tgt := 64) dX8_init_89 (by decide) ?_
  refine aq_iload_n F 0 dX8_init_64 rfl rfl ?_
  refine aq_aload_n F 1 dX8_init_65 rfl rfl ?_
  refine aq_get F (T := TX8) (N := 9) in_X8 hL0 (by omega) (by decide) rfl 5 (by decide) rfl wd_211 (v := .ref (z + (t + 7))) (by rw [(show (aq_up (aq_up (aq_up U t []) (t + 7) [0, 0, 0, 0]) (t + 8) [0, 0, 0, 0, 0, 0, 0, 0, 0, 0, 0, 0]) t = [] from by simp [aq_up])]; exact aq_mask_get (by decide) rfl) dX8_init_66 ?_
  refine aq_alen F (hL 7 _ rfl) (by omega) (by decide) (t0 := 2) rfl (v := (5 : Int32)) (by decide) dX8_init_69 ?_
  refine aq_icmp_ge F (tgt := 92) dX8_init_70 (by decide) (fun hc => absurd hc (by decide)) (fun _ => ?_)
  refine aq_aload_n F 1 dX8_init_73 rfl rfl ?_
  refine aq_get F (T := TX8) (N := 9) in_X8 hL0 (by omega) (by decide) rfl 5 (by decide) rfl wd_211 (v := .ref (z + (t + 7))) (by rw [(show (aq_up (aq_up (aq_up U t []) (t + 7) [0, 0, 0, 0]) (t + 8) [0, 0, 0, 0, 0, 0, 0, 0, 0, 0, 0, 0]) t = [] from by simp [aq_up])]; exact aq_mask_get (by decide) rfl) dX8_init_74 ?_
  refine aq_iload_n F 0 dX8_init_77 rfl rfl ?_
  refine aq_new (n := (t + 20)) F (T := TX4) (N := 5) in_X4 tyX4 tyX4_ok nmX4 (hL 20 _ rfl) (by decide) rfl [0, 1] wd_84 wd_88 wd_4 (aq_def_4 (hg1 (t + 20) (by omega)).2.1) ⟨Nat.le_of_ble_eq_true rfl, Nat.le_of_ble_eq_true rfl⟩ dX8_init_78 ?_
  refine aq_dup F dX8_init_81 rfl ?_
  refine aq_callIN F hAO [] ci_X8_34 (ct_X4 l D E z (t + 20) (aq_sub_8_20 hL) M1 (aq_up (aq_up (aq_up U t []) (t + 7) [0, 0, 0, 0]) (t + 8) [0, 0, 0, 0, 0, 0, 0, 0, 0, 0, 0, 0]) (aq_fr_up (aq_fr_up (aq_fr_up (aq_fr.mono hg1 (by omega)) (by omega)) (by omega)) (by omega))) yn_X4_init rfl ⟨Nat.le_of_ble_eq_true rfl, Nat.le_of_ble_eq_true rfl⟩ rfl rfl (Nat.le_of_ble_eq_true rfl) ⟨Nat.le_of_ble_eq_true rfl, Nat.le_of_ble_eq_true rfl⟩ dX8_init_82 rfl ?_
  refine aq_aast F (T := TX4) (N := 5) (C := "AisleScheduler$Robot") 2 [0, 0, 0] (hL 7 _ rfl) (by omega) (hL 20 _ rfl) (by omega) (by decide) rfl (Or.inl ⟨rfl, by rw [show ((1 : Int32)).toNatClampNeg = 1 from by decide]⟩) rfl (by rw [(show (aq_up (aq_up (aq_up U t []) (t + 7) [0, 0, 0, 0]) (t + 8) [0, 0, 0, 0, 0, 0, 0, 0, 0, 0, 0, 0]) (t + 7) = [0, 0, 0, 0] from by simp [aq_up])]; rfl) (by rw [show ((1 : Int32)).toNatClampNeg = 1 from by decide]; rfl) (vp_in_iff.mpr (by decide)) dX8_init_85 ?_
  rw [aq_up_comm (r := (t + 8)) (q := (t + 7)) (by omega), aq_up_up]
  refine aq_iinc F [(1, .int (2 : Int32)), (0, .ref (z + t))] 0 dX8_init_86 (by decide) rfl (by decide) rfl ?_
  refine aq_goto F (tgt := 64) dX8_init_89 (by decide) ?_
  refine aq_iload_n F 0 dX8_init_64 rfl rfl ?_
  refine aq_aload_n F 1 dX8_init_65 rfl rfl ?_
  refine aq_get F (T := TX8) (N := 9) in_X8 hL0 (by omega) (by decide) rfl 5 (by decide) rfl wd_211 (v := .ref (z + (t + 7))) (by rw [(show (aq_up (aq_up (aq_up U t []) (t + 7) [0, 0, 0]) (t + 8) [0, 0, 0, 0, 0, 0, 0, 0, 0, 0, 0, 0]) t = [] from by simp [aq_up])]; exact aq_mask_get (by decide) rfl) dX8_init_66 ?_
  refine aq_alen F (hL 7 _ rfl) (by omega) (by decide) (t0 := 2) rfl (v := (5 : Int32)) (by decide) dX8_init_69 ?_
  refine aq_icmp_ge F (tgt := 92) dX8_init_70 (by decide) (fun hc => absurd hc (by decide)) (fun _ => ?_)
  refine aq_aload_n F 1 dX8_init_73 rfl rfl ?_
  refine aq_get F (T := TX8) (N := 9) in_X8 hL0 (by omega) (by decide) rfl 5 (by decide) rfl wd_211 (v := .ref (z + (t + 7))) (by rw [(show (aq_up (aq_up (aq_up U t []) (t + 7) [0, 0, 0]) (t + 8) [0, 0, 0, 0, 0, 0, 0, 0, 0, 0, 0, 0]) t = [] from by simp [aq_up])]; exact aq_mask_get (by decide) rfl) dX8_init_74 ?_
  refine aq_iload_n F 0 dX8_init_77 rfl rfl ?_
  refine aq_new (n := (t + 25)) F (T := TX4) (N := 5) in_X4 tyX4 tyX4_ok nmX4 (hL 25 _ rfl) (by decide) rfl [0, 1] wd_84 wd_88 wd_4 (aq_def_4 (hg1 (t + 25) (by omega)).2.1) ⟨Nat.le_of_ble_eq_true rfl, Nat.le_of_ble_eq_true rfl⟩ dX8_init_78 ?_
  refine aq_dup F dX8_init_81 rfl ?_
  refine aq_callIN F hAO [] ci_X8_34 (ct_X4 l D E z (t + 25) (aq_sub_8_25 hL) M1 (aq_up (aq_up (aq_up U t []) (t + 7) [0, 0, 0]) (t + 8) [0, 0, 0, 0, 0, 0, 0, 0, 0, 0, 0, 0]) (aq_fr_up (aq_fr_up (aq_fr_up (aq_fr.mono hg1 (by omega)) (by omega)) (by omega)) (by omega))) yn_X4_init rfl ⟨Nat.le_of_ble_eq_true rfl, Nat.le_of_ble_eq_true rfl⟩ rfl rfl (Nat.le_of_ble_eq_true rfl) ⟨Nat.le_of_ble_eq_true rfl, Nat.le_of_ble_eq_true rfl⟩ dX8_init_82 rfl ?_
  refine aq_aast F (T := TX4) (N := 5) (C := "AisleScheduler$Robot") 2 [0, 0] (hL 7 _ rfl) (by omega) (hL 25 _ rfl) (by omega) (by decide) rfl (Or.inl ⟨rfl, by rw [show ((2 : Int32)).toNatClampNeg = 2 from by decide]⟩) rfl (by rw [(show (aq_up (aq_up (aq_up U t []) (t + 7) [0, 0, 0]) (t + 8) [0, 0, 0, 0, 0, 0, 0, 0, 0, 0, 0, 0]) (t + 7) = [0, 0, 0] from by simp [aq_up])]; rfl) (by rw [show ((2 : Int32)).toNatClampNeg = 2 from by decide]; rfl) (vp_in_iff.mpr (by decide)) dX8_init_85 ?_
  rw [aq_up_comm (r := (t + 8)) (q := (t + 7)) (by omega), aq_up_up]
  refine aq_iinc F [(1, .int (3 : Int32)), (0, .ref (z + t))] 0 dX8_init_86 (by decide) rfl (by decide) rfl ?_
  refine aq_goto F (tgt := 64) dX8_init_89 (by decide) ?_
  refine aq_iload_n F 0 dX8_init_64 rfl rfl ?_
  refine aq_aload_n F 1 dX8_init_65 rfl rfl ?_
  refine aq_get F (T := TX8) (N := 9) in_X8 hL0 (by omega) (by decide) rfl 5 (by decide) rfl wd_211 (v := .ref (z + (t + 7))) (by rw [(show (aq_up (aq_up (aq_up U t []) (t + 7) [0, 0]) (t + 8) [0, 0, 0, 0, 0, 0, 0, 0, 0, 0, 0, 0]) t = [] from by simp [aq_up])]; exact aq_mask_get (by decide) rfl) dX8_init_66 ?_
  refine aq_alen F (hL 7 _ rfl) (by omega) (by decide) (t0 := 2) rfl (v := (5 : Int32)) (by decide) dX8_init_69 ?_
  refine aq_icmp_ge F (tgt := 92) dX8_init_70 (by decide) (fun hc => absurd hc (by decide)) (fun _ => ?_)
  refine aq_aload_n F 1 dX8_init_73 rfl rfl ?_
  refine aq_get F (T := TX8) (N := 9) in_X8 hL0 (by omega) (by decide) rfl 5 (by decide) rfl wd_211 (v := .ref (z + (t + 7))) (by rw [(show (aq_up (aq_up (aq_up U t []) (t + 7) [0, 0]) (t + 8) [0, 0, 0, 0, 0, 0, 0, 0, 0, 0, 0, 0]) t = [] from by simp [aq_up])]; exact aq_mask_get (by decide) rfl) dX8_init_74 ?_
  refine aq_iload_n F 0 dX8_init_77 rfl rfl ?_
  refine aq_new (n := (t + 30)) F (T := TX4) (N := 5) in_X4 tyX4 tyX4_ok nmX4 (hL 30 _ rfl) (by decide) rfl [0, 1] wd_84 wd_88 wd_4 (aq_def_4 (hg1 (t + 30) (by omega)).2.1) ⟨Nat.le_of_ble_eq_true rfl, Nat.le_of_ble_eq_true rfl⟩ dX8_init_78 ?_
  refine aq_dup F dX8_init_81 rfl ?_
  refine aq_callIN F hAO [] ci_X8_34 (ct_X4 l D E z (t + 30) (aq_sub_8_30 hL) M1 (aq_up (aq_up (aq_up U t []) (t + 7) [0, 0]) (t + 8) [0, 0, 0, 0, 0, 0, 0, 0, 0, 0, 0, 0]) (aq_fr_up (aq_fr_up (aq_fr_up (aq_fr.mono hg1 (by omega)) (by omega)) (by omega)) (by omega))) yn_X4_init rfl ⟨Nat.le_of_ble_eq_true rfl, Nat.le_of_ble_eq_true rfl⟩ rfl rfl (Nat.le_of_ble_eq_true rfl) ⟨Nat.le_of_ble_eq_true rfl, Nat.le_of_ble_eq_true rfl⟩ dX8_init_82 rfl ?_
  refine aq_aast F (T := TX4) (N := 5) (C := "AisleScheduler$Robot") 2 [0] (hL 7 _ rfl) (by omega) (hL 30 _ rfl) (by omega) (by decide) rfl (Or.inl ⟨rfl, by rw [show ((3 : Int32)).toNatClampNeg = 3 from by decide]⟩) rfl (by rw [(show (aq_up (aq_up (aq_up U t []) (t + 7) [0, 0]) (t + 8) [0, 0, 0, 0, 0, 0, 0, 0, 0, 0, 0, 0]) (t + 7) = [0, 0] from by simp [aq_up])]; rfl) (by rw [show ((3 : Int32)).toNatClampNeg = 3 from by decide]; rfl) (vp_in_iff.mpr (by decide)) dX8_init_85 ?_
  rw [aq_up_comm (r := (t + 8)) (q := (t + 7)) (by omega), aq_up_up]
  refine aq_iinc F [(1, .int (4 : Int32)), (0, .ref (z + t))] 0 dX8_init_86 (by decide) rfl (by decide) rfl ?_
  refine aq_goto F (tgt := 64) dX8_init_89 (by decide) ?_
  refine aq_iload_n F 0 dX8_init_64 rfl rfl ?_
  refine aq_aload_n F 1 dX8_init_65 rfl rfl ?_
  refine aq_get F (T := TX8) (N := 9) in_X8 hL0 (by omega) (by decide) rfl 5 (by decide) rfl wd_211 (v := .ref (z + (t + 7))) (by rw [(show (aq_up (aq_up (aq_up U t []) (t + 7) [0]) (t + 8) [0, 0, 0, 0, 0, 0, 0, 0, 0, 0, 0, 0]) t = [] from by simp [aq_up])]; exact aq_mask_get (by decide) rfl) dX8_init_66 ?_
  refine aq_alen F (hL 7 _ rfl) (by omega) (by decide) (t0 := 2) rfl (v := (5 : Int32)) (by decide) dX8_init_69 ?_
  refine aq_icmp_ge F (tgt := 92) dX8_init_70 (by decide) (fun hc => absurd hc (by decide)) (fun _ => ?_)
  refine aq_aload_n F 1 dX8_init_73 rfl rfl ?_
  refine aq_get F (T := TX8) (N := 9) in_X8 hL0 (by omega) (by decide) rfl 5 (by decide) rfl wd_211 (v := .ref (z + (t + 7))) (by rw [(show (aq_up (aq_up (aq_up U t []) (t + 7) [0]) (t + 8) [0, 0, 0, 0, 0, 0, 0, 0, 0, 0, 0, 0]) t = [] from by simp [aq_up])]; exact aq_mask_get (by decide) rfl) dX8_init_74 ?_
  refine aq_iload_n F 0 dX8_init_77 rfl rfl ?_
  refine aq_new (n := (t + 35)) F (T := TX4) (N := 5) in_X4 tyX4 tyX4_ok nmX4 (hL 35 _ rfl) (by decide) rfl [0, 1] wd_84 wd_88 wd_4 (aq_def_4 (hg1 (t + 35) (by omega)).2.1) ⟨Nat.le_of_ble_eq_true rfl, Nat.le_of_ble_eq_true rfl⟩ dX8_init_78 ?_
  refine aq_dup F dX8_init_81 rfl ?_
  refine aq_callIN F hAO [] ci_X8_34 (ct_X4 l D E z (t + 35) (aq_sub_8_35 hL) M1 (aq_up (aq_up (aq_up U t []) (t + 7) [0]) (t + 8) [0, 0, 0, 0, 0, 0, 0, 0, 0, 0, 0, 0]) (aq_fr_up (aq_fr_up (aq_fr_up (aq_fr.mono hg1 (by omega)) (by omega)) (by omega)) (by omega))) yn_X4_init rfl ⟨Nat.le_of_ble_eq_true rfl, Nat.le_of_ble_eq_true rfl⟩ rfl rfl (Nat.le_of_ble_eq_true rfl) ⟨Nat.le_of_ble_eq_true rfl, Nat.le_of_ble_eq_true rfl⟩ dX8_init_82 rfl ?_
  refine aq_aast F (T := TX4) (N := 5) (C := "AisleScheduler$Robot") 2 [] (hL 7 _ rfl) (by omega) (hL 35 _ rfl) (by omega) (by decide) rfl (Or.inl ⟨rfl, by rw [show ((4 : Int32)).toNatClampNeg = 4 from by decide]⟩) rfl (by rw [(show (aq_up (aq_up (aq_up U t []) (t + 7) [0]) (t + 8) [0, 0, 0, 0, 0, 0, 0, 0, 0, 0, 0, 0]) (t + 7) = [0] from by simp [aq_up])]; rfl) (by rw [show ((4 : Int32)).toNatClampNeg = 4 from by decide]; rfl) (vp_in_iff.mpr (by decide)) dX8_init_85 ?_
  rw [aq_up_comm (r := (t + 8)) (q := (t + 7)) (by omega), aq_up_up]
  refine aq_iinc F [(1, .int (5 : Int32)), (0, .ref (z + t))] 0 dX8_init_86 (by decide) rfl (by decide) rfl ?_
  refine aq_goto F (tgt := 64) dX8_init_89 (by decide) ?_
  refine aq_iload_n F 0 dX8_init_64 rfl rfl ?_
  refine aq_aload_n F 1 dX8_init_65 rfl rfl ?_
  refine aq_get F (T := TX8) (N := 9) in_X8 hL0 (by omega) (by decide) rfl 5 (by decide) rfl wd_211 (v := .ref (z + (t + 7))) (by rw [(show (aq_up (aq_up (aq_up U t []) (t + 7) []) (t + 8) [0, 0, 0, 0, 0, 0, 0, 0, 0, 0, 0, 0]) t = [] from by simp [aq_up])]; exact aq_mask_get (by decide) rfl) dX8_init_66 ?_
  refine aq_alen F (hL 7 _ rfl) (by omega) (by decide) (t0 := 2) rfl (v := (5 : Int32)) (by decide) dX8_init_69 ?_
  refine aq_icmp_ge F (tgt := 92) dX8_init_70 (by decide) (fun _ => ?_) (fun hc => absurd (by decide) hc)
  refine aq_iconst F (v := (0 : Int32)) dX8_init_92 (by decide) ?_
  refine aq_istore_n F [(1, .int (0 : Int32)), (0, .ref (z + t))] dX8_init_93 rfl (by decide) rfl ?_
  refine aq_iload_n F 0 dX8_init_94 rfl rfl ?_
  refine aq_aload_n F 1 dX8_init_95 rfl rfl ?_
  refine aq_get F (T := TX8) (N := 9) in_X8 hL0 (by omega) (by decide) rfl 6 (by decide) rfl wd_212 (v := .ref (z + (t + 8))) (by rw [(show (aq_up (aq_up (aq_up U t []) (t + 7) []) (t + 8) [0, 0, 0, 0, 0, 0, 0, 0, 0, 0, 0, 0]) t = [] from by simp [aq_up])]; exact aq_mask_get (by decide) rfl) dX8_init_96 ?_
  refine aq_alen F (hL 8 _ rfl) (by omega) (by decide) (t0 := 3) rfl (v := (12 : Int32)) (by decide) dX8_init_99 ?_
  refine aq_icmp_ge F (tgt := 122) dX8_init_100 (by decide) (fun hc => absurd hc (by decide)) (fun _ => ?_)
  refine aq_aload_n F 1 dX8_init_103 rfl rfl ?_
  refine aq_get F (T := TX8) (N := 9) in_X8 hL0 (by omega) (by decide) rfl 6 (by decide) rfl wd_212 (v := .ref (z + (t + 8))) (by rw [(show (aq_up (aq_up (aq_up U t []) (t + 7) []) (t + 8) [0, 0, 0, 0, 0, 0, 0, 0, 0, 0, 0, 0]) t = [] from by simp [aq_up])]; exact aq_mask_get (by decide) rfl) dX8_init_104 ?_
  refine aq_iload_n F 0 dX8_init_107 rfl rfl ?_
  refine aq_new (n := (t + 40)) F (T := TX7) (N := 9) in_X7 tyX7 tyX7_ok nmX7 (hL 40 _ rfl) (by decide) rfl [] wd_86 wd_147 wd_6 (aq_def_7 (hg1 (t + 40) (by omega)).2.1) ⟨Nat.le_of_ble_eq_true rfl, Nat.le_of_ble_eq_true rfl⟩ dX8_init_108 ?_
  refine aq_dup F dX8_init_111 rfl ?_
  refine aq_callIN F hAO [] ci_X8_39 (ct_X7 l D E z (t + 40) (aq_sub_8_40 hL) M1 (aq_up (aq_up (aq_up U t []) (t + 7) []) (t + 8) [0, 0, 0, 0, 0, 0, 0, 0, 0, 0, 0, 0]) (aq_fr_up (aq_fr_up (aq_fr_up (aq_fr.mono hg1 (by omega)) (by omega)) (by omega)) (by omega))) yn_X7_init rfl ⟨Nat.le_of_ble_eq_true rfl, Nat.le_of_ble_eq_true rfl⟩ rfl rfl (Nat.le_of_ble_eq_true rfl) ⟨Nat.le_of_ble_eq_true rfl, Nat.le_of_ble_eq_true rfl⟩ dX8_init_112 rfl ?_
  refine aq_aast F (T := TX7) (N := 9) (C := "AisleScheduler$Task") 3 [0, 0, 0, 0, 0, 0, 0, 0, 0, 0, 0] (hL 8 _ rfl) (by omega) (hL 40 _ rfl) (by omega) (by decide) rfl (Or.inr ⟨rfl, by rw [show ((0 : Int32)).toNatClampNeg = 0 from by decide]⟩) rfl (by rw [(show (aq_up (aq_up (aq_up U t []) (t + 7) []) (t + 8) [0, 0, 0, 0, 0, 0, 0, 0, 0, 0, 0, 0]) (t + 8) = [0, 0, 0, 0, 0, 0, 0, 0, 0, 0, 0, 0] from by simp [aq_up])]; rfl) (by rw [show ((0 : Int32)).toNatClampNeg = 0 from by decide]; rfl) (vp_in_iff.mpr (by decide)) dX8_init_115 ?_
  rw [aq_up_up]
  refine aq_iinc F [(1, .int (1 : Int32)), (0, .ref (z + t))] 0 dX8_init_116 (by decide) rfl (by decide) rfl ?_
  refine aq_goto F (tgt := 94) dX8_init_119 (by decide) ?_
  refine aq_iload_n F 0 dX8_init_94 rfl rfl ?_
  refine aq_aload_n F 1 dX8_init_95 rfl rfl ?_
  refine aq_get F (T := TX8) (N := 9) in_X8 hL0 (by omega) (by decide) rfl 6 (by decide) rfl wd_212 (v := .ref (z + (t + 8))) (by rw [(show (aq_up (aq_up (aq_up U t []) (t + 7) []) (t + 8) [0, 0, 0, 0, 0, 0, 0, 0, 0, 0, 0]) t = [] from by simp [aq_up])]; exact aq_mask_get (by decide) rfl) dX8_init_96 ?_
  refine aq_alen F (hL 8 _ rfl) (by omega) (by decide) (t0 := 3) rfl (v := (12 : Int32)) (by decide) dX8_init_99 ?_
  refine aq_icmp_ge F (tgt := 122) dX8_init_100 (by decide) (fun hc => absurd hc (by decide)) (fun _ => ?_)
  refine aq_aload_n F 1 dX8_init_103 rfl rfl ?_
  refine aq_get F (T := TX8) (N := 9) in_X8 hL0 (by omega) (by decide) rfl 6 (by decide) rfl wd_212 (v := .ref (z + (t + 8))) (by rw [(show (aq_up (aq_up (aq_up U t []) (t + 7) []) (t + 8) [0, 0, 0, 0, 0, 0, 0, 0, 0, 0, 0]) t = [] from by simp [aq_up])]; exact aq_mask_get (by decide) rfl) dX8_init_104 ?_
  refine aq_iload_n F 0 dX8_init_107 rfl rfl ?_
  refine aq_new (n := (t + 41)) F (T := TX7) (N := 9) in_X7 tyX7 tyX7_ok nmX7 (hL 41 _ rfl) (by decide) rfl [] wd_86 wd_147 wd_6 (aq_def_7 (hg1 (t + 41) (by omega)).2.1) ⟨Nat.le_of_ble_eq_true rfl, Nat.le_of_ble_eq_true rfl⟩ dX8_init_108 ?_
  refine aq_dup F dX8_init_111 rfl ?_
  refine aq_callIN F hAO [] ci_X8_39 (ct_X7 l D E z (t + 41) (aq_sub_8_41 hL) M1 (aq_up (aq_up (aq_up U t []) (t + 7) []) (t + 8) [0, 0, 0, 0, 0, 0, 0, 0, 0, 0, 0]) (aq_fr_up (aq_fr_up (aq_fr_up (aq_fr.mono hg1 (by omega)) (by omega)) (by omega)) (by omega))) yn_X7_init rfl ⟨Nat.le_of_ble_eq_true rfl, Nat.le_of_ble_eq_true rfl⟩ rfl rfl (Nat.le_of_ble_eq_true rfl) ⟨Nat.le_of_ble_eq_true rfl, Nat.le_of_ble_eq_true rfl⟩ dX8_init_112 rfl ?_
  refine aq_aast F (T := TX7) (N := 9) (C := "AisleScheduler$Task") 3 [0, 0, 0, 0, 0, 0, 0, 0, 0, 0] (hL 8 _ rfl) (by omega) (hL 41 _ rfl) (by omega) (by decide) rfl (Or.inr ⟨rfl, by rw [show ((1 : Int32)).toNatClampNeg = 1 from by decide]⟩) rfl (by rw [(show (aq_up (aq_up (aq_up U t []) (t + 7) []) (t + 8) [0, 0, 0, 0, 0, 0, 0, 0, 0, 0, 0]) (t + 8) = [0, 0, 0, 0, 0, 0, 0, 0, 0, 0, 0] from by simp [aq_up])]; rfl) (by rw [show ((1 : Int32)).toNatClampNeg = 1 from by decide]; rfl) (vp_in_iff.mpr (by decide)) dX8_init_115 ?_
  rw [aq_up_up]
  refine aq_iinc F [(1, .int (2 : Int32)), (0, .ref (z + t))] 0 dX8_init_116 (by decide) rfl (by decide) rfl ?_
  refine aq_goto F (tgt := 94) dX8_init_119 (by decide) ?_
  refine aq_iload_n F 0 dX8_init_94 rfl rfl ?_
  refine aq_aload_n F 1 dX8_init_95 rfl rfl ?_
  refine aq_get F (T := TX8) (N := 9) in_X8 hL0 (by omega) (by decide) rfl 6 (by decide) rfl wd_212 (v := .ref (z + (t + 8))) (by rw [(show (aq_up (aq_up (aq_up U t []) (t + 7) []) (t + 8) [0, 0, 0, 0, 0, 0, 0, 0, 0, 0]) t = [] from by simp [aq_up])]; exact aq_mask_get (by decide) rfl) dX8_init_96 ?_
  refine aq_alen F (hL 8 _ rfl) (by omega) (by decide) (t0 := 3) rfl (v := (12 : Int32)) (by decide) dX8_init_99 ?_
  refine aq_icmp_ge F (tgt := 122) dX8_init_100 (by decide) (fun hc => absurd hc (by decide)) (fun _ => ?_)
  refine aq_aload_n F 1 dX8_init_103 rfl rfl ?_
  refine aq_get F (T := TX8) (N := 9) in_X8 hL0 (by omega) (by decide) rfl 6 (by decide) rfl wd_212 (v := .ref (z + (t + 8))) (by rw [(show (aq_up (aq_up (aq_up U t []) (t + 7) []) (t + 8) [0, 0, 0, 0, 0, 0, 0, 0, 0, 0]) t = [] from by simp [aq_up])]; exact aq_mask_get (by decide) rfl) dX8_init_104 ?_
  refine aq_iload_n F 0 dX8_init_107 rfl rfl ?_
  refine aq_new (n := (t + 42)) F (T := TX7) (N := 9) in_X7 tyX7 tyX7_ok nmX7 (hL 42 _ rfl) (by decide) rfl [] wd_86 wd_147 wd_6 (aq_def_7 (hg1 (t + 42) (by omega)).2.1) ⟨Nat.le_of_ble_eq_true rfl, Nat.le_of_ble_eq_true rfl⟩ dX8_init_108 ?_
  refine aq_dup F dX8_init_111 rfl ?_
  refine aq_callIN F hAO [] ci_X8_39 (ct_X7 l D E z (t + 42) (aq_sub_8_42 hL) M1 (aq_up (aq_up (aq_up U t []) (t + 7) []) (t + 8) [0, 0, 0, 0, 0, 0, 0, 0, 0, 0]) (aq_fr_up (aq_fr_up (aq_fr_up (aq_fr.mono hg1 (by omega)) (by omega)) (by omega)) (by omega))) yn_X7_init rfl ⟨Nat.le_of_ble_eq_true rfl, Nat.le_of_ble_eq_true rfl⟩ rfl rfl (Nat.le_of_ble_eq_true rfl) ⟨Nat.le_of_ble_eq_true rfl, Nat.le_of_ble_eq_true rfl⟩ dX8_init_112 rfl ?_
  refine aq_aast F (T := TX7) (N := 9) (C := "AisleScheduler$Task") 3 [0, 0, 0, 0, 0, 0, 0, 0, 0] (hL 8 _ rfl) (by omega) (hL 42 _ rfl) (by omega) (by decide) rfl (Or.inr ⟨rfl, by rw [show ((2 : Int32)).toNatClampNeg = 2 from by decide]⟩) rfl (by rw [(show (aq_up (aq_up (aq_up U t []) (t + 7) []) (t + 8) [0, 0, 0, 0, 0, 0, 0, 0, 0, 0]) (t + 8) = [0, 0, 0, 0, 0, 0, 0, 0, 0, 0] from by simp [aq_up])]; rfl) (by rw [show ((2 : Int32)).toNatClampNeg = 2 from by decide]; rfl) (vp_in_iff.mpr (by decide)) dX8_init_115 ?_
  rw [aq_up_up]
  refine aq_iinc F [(1, .int (3 : Int32)), (0, .ref (z + t))] 0 dX8_init_116 (by decide) rfl (by decide) rfl ?_
  refine aq_goto F (tgt := 94) dX8_init_119 (by decide) ?_
  refine aq_iload_n F 0 dX8_init_94 rfl rfl ?_
  refine aq_aload_n F 1 dX8_init_95 rfl rfl ?_
  refine aq_get F (T := TX8) (N := 9) in_X8 hL0 (by omega) (by decide) rfl 6 (by decide) rfl wd_212 (v := .ref (z + (t + 8))) (by rw [(show (aq_up (aq_up (aq_up U t []) (t + 7) []) (t + 8) [0, 0, 0, 0, 0, 0, 0, 0, 0]) t = [] from by simp [aq_up])]; exact aq_mask_get (by decide) rfl) dX8_init_96 ?_
  refine aq_alen F (hL 8 _ rfl) (by omega) (by decide) (t0 := 3) rfl (v := (12 : Int32)) (by decide) dX8_init_99 ?_
  refine aq_icmp_ge F (tgt := 122) dX8_init_100 (by decide) (fun hc => absurd hc (by decide)) (fun _ => ?_)
  refine aq_aload_n F 1 dX8_init_103 rfl rfl ?_
  refine aq_get F (T := TX8) (N := 9) in_X8 hL0 (by omega) (by decide) rfl 6 (by decide) rfl wd_212 (v := .ref (z + (t + 8))) (by rw [(show (aq_up (aq_up (aq_up U t []) (t + 7) []) (t + 8) [0, 0, 0, 0, 0, 0, 0, 0, 0]) t = [] from by simp [aq_up])]; exact aq_mask_get (by decide) rfl) dX8_init_104 ?_
  refine aq_iload_n F 0 dX8_init_107 rfl rfl ?_
  refine aq_new (n := (t + 43)) F (T := TX7) (N := 9) in_X7 tyX7 tyX7_ok nmX7 (hL 43 _ rfl) (by decide) rfl [] wd_86 wd_147 wd_6 (aq_def_7 (hg1 (t + 43) (by omega)).2.1) ⟨Nat.le_of_ble_eq_true rfl, Nat.le_of_ble_eq_true rfl⟩ dX8_init_108 ?_
  refine aq_dup F dX8_init_111 rfl ?_
  refine aq_callIN F hAO [] ci_X8_39 (ct_X7 l D E z (t + 43) (aq_sub_8_43 hL) M1 (aq_up (aq_up (aq_up U t []) (t + 7) []) (t + 8) [0, 0, 0, 0, 0, 0, 0, 0, 0]) (aq_fr_up (aq_fr_up (aq_fr_up (aq_fr.mono hg1 (by omega)) (by omega)) (by omega)) (by omega))) yn_X7_init rfl ⟨Nat.le_of_ble_eq_true rfl, Nat.le_of_ble_eq_true rfl⟩ rfl rfl (Nat.le_of_ble_eq_true rfl) ⟨Nat.le_of_ble_eq_true rfl, Nat.le_of_ble_eq_true rfl⟩ dX8_init_112 rfl ?_
  refine aq_aast F (T := TX7) (N := 9) (C := "AisleScheduler$Task") 3 [0, 0, 0, 0, 0, 0, 0, 0] (hL 8 _ rfl) (by omega) (hL 43 _ rfl) (by omega) (by decide) rfl (Or.inr ⟨rfl, by rw [show ((3 : Int32)).toNatClampNeg = 3 from by decide]⟩) rfl (by rw [(show (aq_up (aq_up (aq_up U t []) (t + 7) []) (t + 8) [0, 0, 0, 0, 0, 0, 0, 0, 0]) (t + 8) = [0, 0, 0, 0, 0, 0, 0, 0, 0] from by simp [aq_up])]; rfl) (by rw [show ((3 : Int32)).toNatClampNeg = 3 from by decide]; rfl) (vp_in_iff.mpr (by decide)) dX8_init_115 ?_
  rw [aq_up_up]
  refine aq_iinc F [(1, .int (4 : Int32)), (0, .ref (z + t))] 0 dX8_init_116 (by decide) rfl (by decide) rfl ?_
  refine aq_goto F (tgt := 94) dX8_init_119 (by decide) ?_
  refine aq_iload_n F 0 dX8_init_94 rfl rfl ?_
  refine aq_aload_n F 1 dX8_init_95 rfl rfl ?_
  refine aq_get F (T := TX8) (N := 9) in_X8 hL0 (by omega) (by decide) rfl 6 (by decide) rfl wd_212 (v := .ref (z + (t + 8))) (by rw [(show (aq_up (aq_up (aq_up U t []) (t + 7) []) (t + 8) [0, 0, 0, 0, 0, 0, 0, 0]) t = [] from by simp [aq_up])]; exact aq_mask_get (by decide) rfl) dX8_init_96 ?_
  refine aq_alen F (hL 8 _ rfl) (by omega) (by decide) (t0 := 3) rfl (v := (12 : Int32)) (by decide) dX8_init_99 ?_
  refine aq_icmp_ge F (tgt := 122) dX8_init_100 (by decide) (fun hc => absurd hc (by decide)) (fun _ => ?_)
  refine aq_aload_n F 1 dX8_init_103 rfl rfl ?_
  refine aq_get F (T := TX8) (N := 9) in_X8 hL0 (by omega) (by decide) rfl 6 (by decide) rfl wd_212 (v := .ref (z + (t + 8))) (by rw [(show (aq_up (aq_up (aq_up U t []) (t + 7) []) (t + 8) [0, 0, 0, 0, 0, 0, 0, 0]) t = [] from by simp [aq_up])]; exact aq_mask_get (by decide) rfl) dX8_init_104 ?_
  refine aq_iload_n F 0 dX8_init_107 rfl rfl ?_
  refine aq_new (n := (t + 44)) F (T := TX7) (N := 9) in_X7 tyX7 tyX7_ok nmX7 (hL 44 _ rfl) (by decide) rfl [] wd_86 wd_147 wd_6 (aq_def_7 (hg1 (t + 44) (by omega)).2.1) ⟨Nat.le_of_ble_eq_true rfl, Nat.le_of_ble_eq_true rfl⟩ dX8_init_108 ?_
  refine aq_dup F dX8_init_111 rfl ?_
  refine aq_callIN F hAO [] ci_X8_39 (ct_X7 l D E z (t + 44) (aq_sub_8_44 hL) M1 (aq_up (aq_up (aq_up U t []) (t + 7) []) (t + 8) [0, 0, 0, 0, 0, 0, 0, 0]) (aq_fr_up (aq_fr_up (aq_fr_up (aq_fr.mono hg1 (by omega)) (by omega)) (by omega)) (by omega))) yn_X7_init rfl ⟨Nat.le_of_ble_eq_true rfl, Nat.le_of_ble_eq_true rfl⟩ rfl rfl (Nat.le_of_ble_eq_true rfl) ⟨Nat.le_of_ble_eq_true rfl, Nat.le_of_ble_eq_true rfl⟩ dX8_init_112 rfl ?_
  refine aq_aast F (T := TX7) (N := 9) (C := "AisleScheduler$Task") 3 [0, 0, 0, 0, 0, 0, 0] (hL 8 _ rfl) (by omega) (hL 44 _ rfl) (by omega) (by decide) rfl (Or.inr ⟨rfl, by rw [show ((4 : Int32)).toNatClampNeg = 4 from by decide]⟩) rfl (by rw [(show (aq_up (aq_up (aq_up U t []) (t + 7) []) (t + 8) [0, 0, 0, 0, 0, 0, 0, 0]) (t + 8) = [0, 0, 0, 0, 0, 0, 0, 0] from by simp [aq_up])]; rfl) (by rw [show ((4 : Int32)).toNatClampNeg = 4 from by decide]; rfl) (vp_in_iff.mpr (by decide)) dX8_init_115 ?_
  rw [aq_up_up]
  refine aq_iinc F [(1, .int (5 : Int32)), (0, .ref (z + t))] 0 dX8_init_116 (by decide) rfl (by decide) rfl ?_
  refine aq_goto F (tgt := 94) dX8_init_119 (by decide) ?_
  refine aq_iload_n F 0 dX8_init_94 rfl rfl ?_
  refine aq_aload_n F 1 dX8_init_95 rfl rfl ?_
  refine aq_get F (T := TX8) (N := 9) in_X8 hL0 (by omega) (by decide) rfl 6 (by decide) rfl wd_212 (v := .ref (z + (t + 8))) (by rw [(show (aq_up (aq_up (aq_up U t []) (t + 7) []) (t + 8) [0, 0, 0, 0, 0, 0, 0]) t = [] from by simp [aq_up])]; exact aq_mask_get (by decide) rfl) dX8_init_96 ?_
  refine aq_alen F (hL 8 _ rfl) (by omega) (by decide) (t0 := 3) rfl (v := (12 : Int32)) (by decide) dX8_init_99 ?_
  refine aq_icmp_ge F (tgt := 122) dX8_init_100 (by decide) (fun hc => absurd hc (by decide)) (fun _ => ?_)
  refine aq_aload_n F 1 dX8_init_103 rfl rfl ?_
  refine aq_get F (T := TX8) (N := 9) in_X8 hL0 (by omega) (by decide) rfl 6 (by decide) rfl wd_212 (v := .ref (z + (t + 8))) (by rw [(show (aq_up (aq_up (aq_up U t []) (t + 7) []) (t + 8) [0, 0, 0, 0, 0, 0, 0]) t = [] from by simp [aq_up])]; exact aq_mask_get (by decide) rfl) dX8_init_104 ?_
  refine aq_iload_n F 0 dX8_init_107 rfl rfl ?_
  refine aq_new (n := (t + 45)) F (T := TX7) (N := 9) in_X7 tyX7 tyX7_ok nmX7 (hL 45 _ rfl) (by decide) rfl [] wd_86 wd_147 wd_6 (aq_def_7 (hg1 (t + 45) (by omega)).2.1) ⟨Nat.le_of_ble_eq_true rfl, Nat.le_of_ble_eq_true rfl⟩ dX8_init_108 ?_
  refine aq_dup F dX8_init_111 rfl ?_
  refine aq_callIN F hAO [] ci_X8_39 (ct_X7 l D E z (t + 45) (aq_sub_8_45 hL) M1 (aq_up (aq_up (aq_up U t []) (t + 7) []) (t + 8) [0, 0, 0, 0, 0, 0, 0]) (aq_fr_up (aq_fr_up (aq_fr_up (aq_fr.mono hg1 (by omega)) (by omega)) (by omega)) (by omega))) yn_X7_init rfl ⟨Nat.le_of_ble_eq_true rfl, Nat.le_of_ble_eq_true rfl⟩ rfl rfl (Nat.le_of_ble_eq_true rfl) ⟨Nat.le_of_ble_eq_true rfl, Nat.le_of_ble_eq_true rfl⟩ dX8_init_112 rfl ?_
  refine aq_aast F (T := TX7) (N := 9) (C := "AisleScheduler$Task") 3 [0, 0, 0, 0, 0, 0] (hL 8 _ rfl) (by omega) (hL 45 _ rfl) (by omega) (by decide) rfl (Or.inr ⟨rfl, by rw [show ((5 : Int32)).toNatClampNeg = 5 from by decide]⟩) rfl (by rw [(show (aq_up (aq_up (aq_up U t []) (t + 7) []) (t + 8) [0, 0, 0, 0, 0, 0, 0]) (t + 8) = [0, 0, 0, 0, 0, 0, 0] from by simp [aq_up])]; rfl) (by rw [show ((5 : Int32)).toNatClampNeg = 5 from by decide]; rfl) (vp_in_iff.mpr (by decide)) dX8_init_115 ?_
  rw [aq_up_up]
  refine aq_iinc F [(1, .int (6 : Int32)), (0, .ref (z + t))] 0 dX8_init_116 (by decide) rfl (by decide) rfl ?_
  refine aq_goto F (tgt := 94) dX8_init_119 (by decide) ?_
  refine aq_iload_n F 0 dX8_init_94 rfl rfl ?_
  refine aq_aload_n F 1 dX8_init_95 rfl rfl ?_
  refine aq_get F (T := TX8) (N := 9) in_X8 hL0 (by omega) (by decide) rfl 6 (by decide) rfl wd_212 (v := .ref (z + (t + 8))) (by rw [(show (aq_up (aq_up (aq_up U t []) (t + 7) []) (t + 8) [0, 0, 0, 0, 0, 0]) t = [] from by simp [aq_up])]; exact aq_mask_get (by decide) rfl) dX8_init_96 ?_
  refine aq_alen F (hL 8 _ rfl) (by omega) (by decide) (t0 := 3) rfl (v := (12 : Int32)) (by decide) dX8_init_99 ?_
  refine aq_icmp_ge F (tgt := 122) dX8_init_100 (by decide) (fun hc => absurd hc (by decide)) (fun _ => ?_)
  refine aq_aload_n F 1 dX8_init_103 rfl rfl ?_
  refine aq_get F (T := TX8) (N := 9) in_X8 hL0 (by omega) (by decide) rfl 6 (by decide) rfl wd_212 (v := .ref (z + (t + 8))) (by rw [(show (aq_up (aq_up (aq_up U t []) (t + 7) []) (t + 8) [0, 0, 0, 0, 0, 0]) t = [] from by simp [aq_up])]; exact aq_mask_get (by decide) rfl) dX8_init_104 ?_
  refine aq_iload_n F 0 dX8_init_107 rfl rfl ?_
  refine aq_new (n := (t + 46)) F (T := TX7) (N := 9) in_X7 tyX7 tyX7_ok nmX7 (hL 46 _ rfl) (by decide) rfl [] wd_86 wd_147 wd_6 (aq_def_7 (hg1 (t + 46) (by omega)).2.1) ⟨Nat.le_of_ble_eq_true rfl, Nat.le_of_ble_eq_true rfl⟩ dX8_init_108 ?_
  refine aq_dup F dX8_init_111 rfl ?_
  refine aq_callIN F hAO [] ci_X8_39 (ct_X7 l D E z (t + 46) (aq_sub_8_46 hL) M1 (aq_up (aq_up (aq_up U t []) (t + 7) []) (t + 8) [0, 0, 0, 0, 0, 0]) (aq_fr_up (aq_fr_up (aq_fr_up (aq_fr.mono hg1 (by omega)) (by omega)) (by omega)) (by omega))) yn_X7_init rfl ⟨Nat.le_of_ble_eq_true rfl, Nat.le_of_ble_eq_true rfl⟩ rfl rfl (Nat.le_of_ble_eq_true rfl) ⟨Nat.le_of_ble_eq_true rfl, Nat.le_of_ble_eq_true rfl⟩ dX8_init_112 rfl ?_
  refine aq_aast F (T := TX7) (N := 9) (C := "AisleScheduler$Task") 3 [0, 0, 0, 0, 0] (hL 8 _ rfl) (by omega) (hL 46 _ rfl) (by omega) (by decide) rfl (Or.inr ⟨rfl, by rw [show ((6 : Int32)).toNatClampNeg = 6 from by decide]⟩) rfl (by rw [(show (aq_up (aq_up (aq_up U t []) (t + 7) []) (t + 8) [0, 0, 0, 0, 0, 0]) (t + 8) = [0, 0, 0, 0, 0, 0] from by simp [aq_up])]; rfl) (by rw [show ((6 : Int32)).toNatClampNeg = 6 from by decide]; rfl) (vp_in_iff.mpr (by decide)) dX8_init_115 ?_
  rw [aq_up_up]
  refine aq_iinc F [(1, .int (7 : Int32)), (0, .ref (z + t))] 0 dX8_init_116 (by decide) rfl (by decide) rfl ?_
  refine aq_goto F (tgt := 94) dX8_init_119 (by decide) ?_
  refine aq_iload_n F 0 dX8_init_94 rfl rfl ?_
  refine aq_aload_n F 1 dX8_init_95 rfl rfl ?_
  refine aq_get F (T := TX8) (N := 9) in_X8 hL0 (by omega) (by decide) rfl 6 (by decide) rfl wd_212 (v := .ref (z + (t + 8))) (by rw [(show (aq_up (aq_up (aq_up U t []) (t + 7) []) (t + 8) [0, 0, 0, 0, 0]) t = [] from by simp [aq_up])]; exact aq_mask_get (by decide) rfl) dX8_init_96 ?_
  refine aq_alen F (hL 8 _ rfl) (by omega) (by decide) (t0 := 3) rfl (v := (12 : Int32)) (by decide) dX8_init_99 ?_
  refine aq_icmp_ge F (tgt := 122) dX8_init_100 (by decide) (fun hc => absurd hc (by decide)) (fun _ => ?_)
  refine aq_aload_n F 1 dX8_init_103 rfl rfl ?_
  refine aq_get F (T := TX8) (N := 9) in_X8 hL0 (by omega) (by decide) rfl 6 (by decide) rfl wd_212 (v := .ref (z + (t + 8))) (by rw [(show (aq_up (aq_up (aq_up U t []) (t + 7) []) (t + 8) [0, 0, 0, 0, 0]) t = [] from by simp [aq_up])]; exact aq_mask_get (by decide) rfl) dX8_init_104 ?_
  refine aq_iload_n F 0 dX8_init_107 rfl rfl ?_
  refine aq_new (n := (t + 47)) F (T := TX7) (N := 9) in_X7 tyX7 tyX7_ok nmX7 (hL 47 _ rfl) (by decide) rfl [] wd_86 wd_147 wd_6 (aq_def_7 (hg1 (t + 47) (by omega)).2.1) ⟨Nat.le_of_ble_eq_true rfl, Nat.le_of_ble_eq_true rfl⟩ dX8_init_108 ?_
  refine aq_dup F dX8_init_111 rfl ?_
  refine aq_callIN F hAO [] ci_X8_39 (ct_X7 l D E z (t + 47) (aq_sub_8_47 hL) M1 (aq_up (aq_up (aq_up U t []) (t + 7) []) (t + 8) [0, 0, 0, 0, 0]) (aq_fr_up (aq_fr_up (aq_fr_up (aq_fr.mono hg1 (by omega)) (by omega)) (by omega)) (by omega))) yn_X7_init rfl ⟨Nat.le_of_ble_eq_true rfl, Nat.le_of_ble_eq_true rfl⟩ rfl rfl (Nat.le_of_ble_eq_true rfl) ⟨Nat.le_of_ble_eq_true rfl, Nat.le_of_ble_eq_true rfl⟩ dX8_init_112 rfl ?_
  refine aq_aast F (T := TX7) (N := 9) (C := "AisleScheduler$Task") 3 [0, 0, 0, 0] (hL 8 _ rfl) (by omega) (hL 47 _ rfl) (by omega) (by decide) rfl (Or.inr ⟨rfl, by rw [show ((7 : Int32)).toNatClampNeg = 7 from by decide]⟩) rfl (by rw [(show (aq_up (aq_up (aq_up U t []) (t + 7) []) (t + 8) [0, 0, 0, 0, 0]) (t + 8) = [0, 0, 0, 0, 0] from by simp [aq_up])]; rfl) (by rw [show ((7 : Int32)).toNatClampNeg = 7 from by decide]; rfl) (vp_in_iff.mpr (by decide)) dX8_init_115 ?_
  rw [aq_up_up]
  refine aq_iinc F [(1, .int (8 : Int32)), (0, .ref (z + t))] 0 dX8_init_116 (by decide) rfl (by decide) rfl ?_
  refine aq_goto F (tgt := 94) dX8_init_119 (by decide) ?_
  refine aq_iload_n F 0 dX8_init_94 rfl rfl ?_
  refine aq_aload_n F 1 dX8_init_95 rfl rfl ?_
  refine aq_get F (T := TX8) (N := 9) in_X8 hL0 (by omega) (by decide) rfl 6 (by decide) rfl wd_212 (v := .ref (z + (t + 8))) (by rw [(show (aq_up (aq_up (aq_up U t []) (t + 7) []) (t + 8) [0, 0, 0, 0]) t = [] from by simp [aq_up])]; exact aq_mask_get (by decide) rfl) dX8_init_96 ?_
  refine aq_alen F (hL 8 _ rfl) (by omega) (by decide) (t0 := 3) rfl (v := (12 : Int32)) (by decide) dX8_init_99 ?_
  refine aq_icmp_ge F (tgt := 122) dX8_init_100 (by decide) (fun hc => absurd hc (by decide)) (fun _ => ?_)
  refine aq_aload_n F 1 dX8_init_103 rfl rfl ?_
  refine aq_get F (T := TX8) (N := 9) in_X8 hL0 (by omega) (by decide) rfl 6 (by decide) rfl wd_212 (v := .ref (z + (t + 8))) (by rw [(show (aq_up (aq_up (aq_up U t []) (t + 7) []) (t + 8) [0, 0, 0, 0]) t = [] from by simp [aq_up])]; exact aq_mask_get (by decide) rfl) dX8_init_104 ?_
  refine aq_iload_n F 0 dX8_init_107 rfl rfl ?_
  refine aq_new (n := (t + 48)) F (T := TX7) (N := 9) in_X7 tyX7 tyX7_ok nmX7 (hL 48 _ rfl) (by decide) rfl [] wd_86 wd_147 wd_6 (aq_def_7 (hg1 (t + 48) (by omega)).2.1) ⟨Nat.le_of_ble_eq_true rfl, Nat.le_of_ble_eq_true rfl⟩ dX8_init_108 ?_
  refine aq_dup F dX8_init_111 rfl ?_
  refine aq_callIN F hAO [] ci_X8_39 (ct_X7 l D E z (t + 48) (aq_sub_8_48 hL) M1 (aq_up (aq_up (aq_up U t []) (t + 7) []) (t + 8) [0, 0, 0, 0]) (aq_fr_up (aq_fr_up (aq_fr_up (aq_fr.mono hg1 (by omega)) (by omega)) (by omega)) (by omega))) yn_X7_init rfl ⟨Nat.le_of_ble_eq_true rfl, Nat.le_of_ble_eq_true rfl⟩ rfl rfl (Nat.le_of_ble_eq_true rfl) ⟨Nat.le_of_ble_eq_true rfl, Nat.le_of_ble_eq_true rfl⟩ dX8_init_112 rfl ?_
  refine aq_aast F (T := TX7) (N := 9) (C := "AisleScheduler$Task") 3 [0, 0, 0] (hL 8 _ rfl) (by omega) (hL 48 _ rfl) (by omega) (by decide) rfl (Or.inr ⟨rfl, by rw [show ((8 : Int32)).toNatClampNeg = 8 from by decide]⟩) rfl (by rw [(show (aq_up (aq_up (aq_up U t []) (t + 7) []) (t + 8) [0, 0, 0, 0]) (t + 8) = [0, 0, 0, 0] from by simp [aq_up])]; rfl) (by rw [show ((8 : Int32)).toNatClampNeg = 8 from by decide]; rfl) (vp_in_iff.mpr (by decide)) dX8_init_115 ?_
  rw [aq_up_up]
  refine aq_iinc F [(1, .int (9 : Int32)), (0, .ref (z + t))] 0 dX8_init_116 (by decide) rfl (by decide) rfl ?_
  refine aq_goto F (tgt := 94) dX8_init_119 (by decide) ?_
  refine aq_iload_n F 0 dX8_init_94 rfl rfl ?_
  refine aq_aload_n F 1 dX8_init_95 rfl rfl ?_
  refine aq_get F (T := TX8) (N := 9) in_X8 hL0 (by omega) (by decide) rfl 6 (by decide) rfl wd_212 (v := .ref (z + (t + 8))) (by rw [(show (aq_up (aq_up (aq_up U t []) (t + 7) []) (t + 8) [0, 0, 0]) t = [] from by simp [aq_up])]; exact aq_mask_get (by decide) rfl) dX8_init_96 ?_
  refine aq_alen F (hL 8 _ rfl) (by omega) (by decide) (t0 := 3) rfl (v := (12 : Int32)) (by decide) dX8_init_99 ?_
  refine aq_icmp_ge F (tgt := 122) dX8_init_100 (by decide) (fun hc => absurd hc (by decide)) (fun _ => ?_)
  refine aq_aload_n F 1 dX8_init_103 rfl rfl ?_
  refine aq_get F (T := TX8) (N := 9) in_X8 hL0 (by omega) (by decide) rfl 6 (by decide) rfl wd_212 (v := .ref (z + (t + 8))) (by rw [(show (aq_up (aq_up (aq_up U t []) (t + 7) []) (t + 8) [0, 0, 0]) t = [] from by simp [aq_up])]; exact aq_mask_get (by decide) rfl) dX8_init_104 ?_
  refine aq_iload_n F 0 dX8_init_107 rfl rfl ?_
  refine aq_new (n := (t + 49)) F (T := TX7) (N := 9) in_X7 tyX7 tyX7_ok nmX7 (hL 49 _ rfl) (by decide) rfl [] wd_86 wd_147 wd_6 (aq_def_7 (hg1 (t + 49) (by omega)).2.1) ⟨Nat.le_of_ble_eq_true rfl, Nat.le_of_ble_eq_true rfl⟩ dX8_init_108 ?_
  refine aq_dup F dX8_init_111 rfl ?_
  refine aq_callIN F hAO [] ci_X8_39 (ct_X7 l D E z (t + 49) (aq_sub_8_49 hL) M1 (aq_up (aq_up (aq_up U t []) (t + 7) []) (t + 8) [0, 0, 0]) (aq_fr_up (aq_fr_up (aq_fr_up (aq_fr.mono hg1 (by omega)) (by omega)) (by omega)) (by omega))) yn_X7_init rfl ⟨Nat.le_of_ble_eq_true rfl, Nat.le_of_ble_eq_true rfl⟩ rfl rfl (Nat.le_of_ble_eq_true rfl) ⟨Nat.le_of_ble_eq_true rfl, Nat.le_of_ble_eq_true rfl⟩ dX8_init_112 rfl ?_
  refine aq_aast F (T := TX7) (N := 9) (C := "AisleScheduler$Task") 3 [0, 0] (hL 8 _ rfl) (by omega) (hL 49 _ rfl) (by omega) (by decide) rfl (Or.inr ⟨rfl, by rw [show ((9 : Int32)).toNatClampNeg = 9 from by decide]⟩) rfl (by rw [(show (aq_up (aq_up (aq_up U t []) (t + 7) []) (t + 8) [0, 0, 0]) (t + 8) = [0, 0, 0] from by simp [aq_up])]; rfl) (by rw [show ((9 : Int32)).toNatClampNeg = 9 from by decide]; rfl) (vp_in_iff.mpr (by decide)) dX8_init_115 ?_
  rw [aq_up_up]
  refine aq_iinc F [(1, .int (10 : Int32)), (0, .ref (z + t))] 0 dX8_init_116 (by decide) rfl (by decide) rfl ?_
  refine aq_goto F (tgt := 94) dX8_init_119 (by decide) ?_
  refine aq_iload_n F 0 dX8_init_94 rfl rfl ?_
  refine aq_aload_n F 1 dX8_init_95 rfl rfl ?_
  refine aq_get F (T := TX8) (N := 9) in_X8 hL0 (by omega) (by decide) rfl 6 (by decide) rfl wd_212 (v := .ref (z + (t + 8))) (by rw [(show (aq_up (aq_up (aq_up U t []) (t + 7) []) (t + 8) [0, 0]) t = [] from by simp [aq_up])]; exact aq_mask_get (by decide) rfl) dX8_init_96 ?_
  refine aq_alen F (hL 8 _ rfl) (by omega) (by decide) (t0 := 3) rfl (v := (12 : Int32)) (by decide) dX8_init_99 ?_
  refine aq_icmp_ge F (tgt := 122) dX8_init_100 (by decide) (fun hc => absurd hc (by decide)) (fun _ => ?_)
  refine aq_aload_n F 1 dX8_init_103 rfl rfl ?_
  refine aq_get F (T := TX8) (N := 9) in_X8 hL0 (by omega) (by decide) rfl 6 (by decide) rfl wd_212 (v := .ref (z + (t + 8))) (by rw [(show (aq_up (aq_up (aq_up U t []) (t + 7) []) (t + 8) [0, 0]) t = [] from by simp [aq_up])]; exact aq_mask_get (by decide) rfl) dX8_init_104 ?_
  refine aq_iload_n F 0 dX8_init_107 rfl rfl ?_
  refine aq_new (n := (t + 50)) F (T := TX7) (N := 9) in_X7 tyX7 tyX7_ok nmX7 (hL 50 _ rfl) (by decide) rfl [] wd_86 wd_147 wd_6 (aq_def_7 (hg1 (t + 50) (by omega)).2.1) ⟨Nat.le_of_ble_eq_true rfl, Nat.le_of_ble_eq_true rfl⟩ dX8_init_108 ?_
  refine aq_dup F dX8_init_111 rfl ?_
  refine aq_callIN F hAO [] ci_X8_39 (ct_X7 l D E z (t + 50) (aq_sub_8_50 hL) M1 (aq_up (aq_up (aq_up U t []) (t + 7) []) (t + 8) [0, 0]) (aq_fr_up (aq_fr_up (aq_fr_up (aq_fr.mono hg1 (by omega)) (by omega)) (by omega)) (by omega))) yn_X7_init rfl ⟨Nat.le_of_ble_eq_true rfl, Nat.le_of_ble_eq_true rfl⟩ rfl rfl (Nat.le_of_ble_eq_true rfl) ⟨Nat.le_of_ble_eq_true rfl, Nat.le_of_ble_eq_true rfl⟩ dX8_init_112 rfl ?_
  refine aq_aast F (T := TX7) (N := 9) (C := "AisleScheduler$Task") 3 [0] (hL 8 _ rfl) (by omega) (hL 50 _ rfl) (by omega) (by decide) rfl (Or.inr ⟨rfl, by rw [show ((10 : Int32)).toNatClampNeg = 10 from by decide]⟩) rfl (by rw [(show (aq_up (aq_up (aq_up U t []) (t + 7) []) (t + 8) [0, 0]) (t + 8) = [0, 0] from by simp [aq_up])]; rfl) (by rw [show ((10 : Int32)).toNatClampNeg = 10 from by decide]; rfl) (vp_in_iff.mpr (by decide)) dX8_init_115 ?_
  rw [aq_up_up]
  refine aq_iinc F [(1, .int (11 : Int32)), (0, .ref (z + t))] 0 dX8_init_116 (by decide) rfl (by decide) rfl ?_
  refine aq_goto F (tgt := 94) dX8_init_119 (by decide) ?_
  refine aq_iload_n F 0 dX8_init_94 rfl rfl ?_
  refine aq_aload_n F 1 dX8_init_95 rfl rfl ?_
  refine aq_get F (T := TX8) (N := 9) in_X8 hL0 (by omega) (by decide) rfl 6 (by decide) rfl wd_212 (v := .ref (z + (t + 8))) (by rw [(show (aq_up (aq_up (aq_up U t []) (t + 7) []) (t + 8) [0]) t = [] from by simp [aq_up])]; exact aq_mask_get (by decide) rfl) dX8_init_96 ?_
  refine aq_alen F (hL 8 _ rfl) (by omega) (by decide) (t0 := 3) rfl (v := (12 : Int32)) (by decide) dX8_init_99 ?_
  refine aq_icmp_ge F (tgt := 122) dX8_init_100 (by decide) (fun hc => absurd hc (by decide)) (fun _ => ?_)
  refine aq_aload_n F 1 dX8_init_103 rfl rfl ?_
  refine aq_get F (T := TX8) (N := 9) in_X8 hL0 (by omega) (by decide) rfl 6 (by decide) rfl wd_212 (v := .ref (z + (t + 8))) (by rw [(show (aq_up (aq_up (aq_up U t []) (t + 7) []) (t + 8) [0]) t = [] from by simp [aq_up])]; exact aq_mask_get (by decide) rfl) dX8_init_104 ?_
  refine aq_iload_n F 0 dX8_init_107 rfl rfl ?_
  refine aq_new (n := (t + 51)) F (T := TX7) (N := 9) in_X7 tyX7 tyX7_ok nmX7 (hL 51 _ rfl) (by decide) rfl [] wd_86 wd_147 wd_6 (aq_def_7 (hg1 (t + 51) (by omega)).2.1) ⟨Nat.le_of_ble_eq_true rfl, Nat.le_of_ble_eq_true rfl⟩ dX8_init_108 ?_
  refine aq_dup F dX8_init_111 rfl ?_
  refine aq_callIN F hAO [] ci_X8_39 (ct_X7 l D E z (t + 51) (aq_sub_8_51 hL) M1 (aq_up (aq_up (aq_up U t []) (t + 7) []) (t + 8) [0]) (aq_fr_up (aq_fr_up (aq_fr_up (aq_fr.mono hg1 (by omega)) (by omega)) (by omega)) (by omega))) yn_X7_init rfl ⟨Nat.le_of_ble_eq_true rfl, Nat.le_of_ble_eq_true rfl⟩ rfl rfl (Nat.le_of_ble_eq_true rfl) ⟨Nat.le_of_ble_eq_true rfl, Nat.le_of_ble_eq_true rfl⟩ dX8_init_112 rfl ?_
  refine aq_aast F (T := TX7) (N := 9) (C := "AisleScheduler$Task") 3 [] (hL 8 _ rfl) (by omega) (hL 51 _ rfl) (by omega) (by decide) rfl (Or.inr ⟨rfl, by rw [show ((11 : Int32)).toNatClampNeg = 11 from by decide]⟩) rfl (by rw [(show (aq_up (aq_up (aq_up U t []) (t + 7) []) (t + 8) [0]) (t + 8) = [0] from by simp [aq_up])]; rfl) (by rw [show ((11 : Int32)).toNatClampNeg = 11 from by decide]; rfl) (vp_in_iff.mpr (by decide)) dX8_init_115 ?_
  rw [aq_up_up]
  refine aq_iinc F [(1, .int (12 : Int32)), (0, .ref (z + t))] 0 dX8_init_116 (by decide) rfl (by decide) rfl ?_
  refine aq_goto F (tgt := 94) dX8_init_119 (by decide) ?_
  refine aq_iload_n F 0 dX8_init_94 rfl rfl ?_
  refine aq_aload_n F 1 dX8_init_95 rfl rfl ?_
  refine aq_get F (T := TX8) (N := 9) in_X8 hL0 (by omega) (by decide) rfl 6 (by decide) rfl wd_212 (v := .ref (z + (t + 8))) (by rw [(show (aq_up (aq_up (aq_up U t []) (t + 7) []) (t + 8) []) t = [] from by simp [aq_up])]; exact aq_mask_get (by decide) rfl) dX8_init_96 ?_
  refine aq_alen F (hL 8 _ rfl) (by omega) (by decide) (t0 := 3) rfl (v := (12 : Int32)) (by decide) dX8_init_99 ?_
  refine aq_icmp_ge F (tgt := 122) dX8_init_100 (by decide) (fun _ => ?_) (fun hc => absurd (by decide) hc)
  exact aq_vret F hr ⟨Nat.le_of_ble_eq_true rfl, Nat.le_of_ble_eq_true rfl⟩ rfl (by rw [aq_up_id (U := U) (r := t) (v := []) ((hf0 t (by omega)).1), aq_up_id (U := U) (r := (t + 7)) (v := []) ((hf0 (t + 7) (by omega)).1), aq_up_id (U := U) (r := (t + 8)) (v := []) ((hf0 (t + 8) (by omega)).1)]) rfl dX8_init_122
abbrev rm_X0_init : Room := { frames := 1, cells := 4, slots := 1512, locals := 40 }
theorem yn_X0_init : am_yn yX0_init 1 := ⟨⟨by decide +kernel, by decide +kernel⟩, by decide +kernel⟩
set_option maxHeartbeats 4000000 in
set_option maxRecDepth 100000 in
theorem ct_X0 (l : Launch) (D : va_G) (E : Nat → ClassId) (z : Nat) (M : am_M) (U : Nat → List Nat) (hf0 : aq_fr M U 161) (hW0 : U 1 = []) (hW1 : U 2 = []) : aq_Mc l yX0_init cX0_init 2 rm_X0_init D E z [.ref (z + 161), .ref (z + 2)] M (aq_up U 161 [1, 2, 3, 4, 0]) 162 4 1512 M U 166 := by
  refine aq_of (own := RX0) (by decide +kernel) rfl (by exact Nat.le_of_ble_eq_true rfl) ?_
  intro p e s m args below meth c F hr hmn hAO hsz
  show aq_W p l e rm_X0_init s m args below meth c _ 2 D E z 0 0 M (aq_up U 161 [1, 2, 3, 4, 0]) 162 0 [(0, .ref (z + 161)), (1, .ref (z + 2))] []
  refine aq_aload_n F 0 dX0_init_0 rfl rfl ?_
  refine aq_objInit F wd_247 (Nat.le_of_ble_eq_true rfl) (Nat.le_of_ble_eq_true rfl) dX0_init_1 ?_
  refine aq_aload_n F 0 dX0_init_4 rfl rfl ?_
  refine aq_bipush F (v := (31 : Int32)) dX0_init_5 (by decide) ?_
  refine aq_newa (n := 162) F (atype := .long) (ty := .long) 1 (by decide +kernel : am_ly 162 = (21, 31)) (by decide) rfl ((show (aq_up U 161 [1, 2, 3, 4, 0]) 162 = U 162 from by simp [aq_up]).trans (hf0 162 (by omega)).1) aq_wa21 rfl (fun _ h => h) (aq_cell21 (hf0 162 (by omega)).2.2.1) rfl (by decide) (by decide) (Nat.le_of_ble_eq_true rfl) ⟨Nat.le_of_ble_eq_true rfl, Nat.le_of_ble_eq_true rfl⟩ dX0_init_7 ?_
  refine aq_putR F hmn (rest := [2, 3, 4, 0]) (T := TX0) (N := 5) in_X0 tyX0 tyX0_ok nmX0 (by decide +kernel : am_ly 161 = (0, 0)) (by omega) (by decide) rfl 1 (by decide) rfl rfl rfl wd_249 (ty := (.array .long)) (by decide +kernel) rfl rfl (by rw [aq_mask_len]; exact Nat.le_of_ble_eq_true rfl) (by rw [(show (aq_up U 161 [1, 2, 3, 4, 0]) 161 = [1, 2, 3, 4, 0] from by simp [aq_up])]; exact aq_mask_set (by decide) rfl) dX0_init_9 ?_
  rw [aq_up_up]
  refine aq_aload_n F 0 dX0_init_12 rfl rfl ?_
  refine aq_sipush F (v := (210 : Int32)) dX0_init_13 (by decide) ?_
  refine aq_newa (n := 163) F (atype := .long) (ty := .long) 1 (by decide +kernel : am_ly 163 = (21, 210)) (by decide) rfl ((show (aq_up U 161 [2, 3, 4, 0]) 163 = U 163 from by simp [aq_up]).trans (hf0 163 (by omega)).1) aq_wa21 rfl (fun _ h => h) (aq_cell21 (hf0 163 (by omega)).2.2.1) rfl (by decide) (by decide) (Nat.le_of_ble_eq_true rfl) ⟨Nat.le_of_ble_eq_true rfl, Nat.le_of_ble_eq_true rfl⟩ dX0_init_16 ?_
  refine aq_putR F hmn (rest := [3, 4, 0]) (T := TX0) (N := 5) in_X0 tyX0 tyX0_ok nmX0 (by decide +kernel : am_ly 161 = (0, 0)) (by omega) (by decide) rfl 2 (by decide) rfl rfl rfl wd_250 (ty := (.array .long)) (by decide +kernel) rfl rfl (by rw [aq_mask_len]; exact Nat.le_of_ble_eq_true rfl) (by rw [(show (aq_up U 161 [2, 3, 4, 0]) 161 = [2, 3, 4, 0] from by simp [aq_up])]; exact aq_mask_set (by decide) rfl) dX0_init_18 ?_
  rw [aq_up_up]
  refine aq_aload_n F 0 dX0_init_21 rfl rfl ?_
  refine aq_bipush F (v := (31 : Int32)) dX0_init_22 (by decide) ?_
  refine aq_newa (n := 164) F (atype := .long) (ty := .long) 1 (by decide +kernel : am_ly 164 = (21, 31)) (by decide) rfl ((show (aq_up U 161 [3, 4, 0]) 164 = U 164 from by simp [aq_up]).trans (hf0 164 (by omega)).1) aq_wa21 rfl (fun _ h => h) (aq_cell21 (hf0 164 (by omega)).2.2.1) rfl (by decide) (by decide) (Nat.le_of_ble_eq_true rfl) ⟨Nat.le_of_ble_eq_true rfl, Nat.le_of_ble_eq_true rfl⟩ dX0_init_24 ?_
  refine aq_putR F hmn (rest := [4, 0]) (T := TX0) (N := 5) in_X0 tyX0 tyX0_ok nmX0 (by decide +kernel : am_ly 161 = (0, 0)) (by omega) (by decide) rfl 3 (by decide) rfl rfl rfl wd_251 (ty := (.array .long)) (by decide +kernel) rfl rfl (by rw [aq_mask_len]; exact Nat.le_of_ble_eq_true rfl) (by rw [(show (aq_up U 161 [3, 4, 0]) 161 = [3, 4, 0] from by simp [aq_up])]; exact aq_mask_set (by decide) rfl) dX0_init_26 ?_
  rw [aq_up_up]
  refine aq_aload_n F 0 dX0_init_29 rfl rfl ?_
  refine aq_sipush F (v := (1240 : Int32)) dX0_init_30 (by decide) ?_
  refine aq_newa (n := 165) F (atype := .int) (ty := .int) 0 (by decide +kernel : am_ly 165 = (20, 1240)) (by decide) rfl ((show (aq_up U 161 [4, 0]) 165 = U 165 from by simp [aq_up]).trans (hf0 165 (by omega)).1) aq_wa20 rfl (fun _ h => h) (aq_cell20 (hf0 165 (by omega)).2.1) rfl (by decide) (by decide) (Nat.le_of_ble_eq_true rfl) ⟨Nat.le_of_ble_eq_true rfl, Nat.le_of_ble_eq_true rfl⟩ dX0_init_33 ?_
  refine aq_putR F hmn (rest := [0]) (T := TX0) (N := 5) in_X0 tyX0 tyX0_ok nmX0 (by decide +kernel : am_ly 161 = (0, 0)) (by omega) (by decide) rfl 4 (by decide) rfl rfl rfl wd_252 (ty := (.array .int)) (by decide +kernel) rfl rfl (by rw [aq_mask_len]; exact Nat.le_of_ble_eq_true rfl) (by rw [(show (aq_up U 161 [4, 0]) 161 = [4, 0] from by simp [aq_up])]; exact aq_mask_set (by decide) rfl) dX0_init_35 ?_
  rw [aq_up_up]
  refine aq_aload_n F 0 dX0_init_38 rfl rfl ?_
  refine aq_aload_n F 1 dX0_init_39 rfl rfl ?_
  refine aq_putR F hmn (rest := []) (T := TX0) (N := 5) in_X0 tyX0 tyX0_ok nmX0 (by decide +kernel : am_ly 161 = (0, 0)) (by omega) (by decide) rfl 0 (by decide) rfl rfl rfl wd_248 (ty := (.object "AisleScheduler$Floor")) (by decide +kernel) rfl rfl (by rw [aq_mask_len]; exact Nat.le_of_ble_eq_true rfl) (by rw [(show (aq_up U 161 [0]) 161 = [0] from by simp [aq_up])]; exact aq_mask_set (by decide) rfl) dX0_init_40 ?_
  rw [aq_up_up]
  exact aq_vret F hr ⟨Nat.le_of_ble_eq_true rfl, Nat.le_of_ble_eq_true rfl⟩ rfl (by rw [aq_up_id (U := U) (r := 161) (v := []) ((hf0 161 (by omega)).1)]) rfl dX0_init_43
abbrev rm_X3_init : Room := { frames := 2, cells := 8, slots := 1583, locals := 61 }
theorem yn_X3_init : am_yn yX3_init 1 := ⟨⟨by decide +kernel, by decide +kernel⟩, by decide +kernel⟩
set_option maxHeartbeats 4000000 in
set_option maxRecDepth 100000 in
theorem ct_X3 (l : Launch) (D : va_G) (E : Nat → ClassId) (z : Nat) (M : am_M) (U : Nat → List Nat) (hf0 : aq_fr M U 157) (hW0 : U 1 = []) (hW1 : U 2 = []) : aq_Mc l yX3_init cX3_init 2 rm_X3_init D E z [.ref (z + 157), .ref (z + 1)] M (aq_up U 157 [2, 0, 1]) 158 8 1583 M U 166 := by
  refine aq_of (own := RX3) (by decide +kernel) rfl (by exact Nat.le_of_ble_eq_true rfl) ?_
  intro p e s m args below meth c F hr hmn hAO hsz
  show aq_W p l e rm_X3_init s m args below meth c _ 2 D E z 0 0 M (aq_up U 157 [2, 0, 1]) 158 0 [(0, .ref (z + 157)), (1, .ref (z + 1))] []
  refine aq_aload_n F 0 dX3_init_0 rfl rfl ?_
  refine aq_objInit F wd_239 (Nat.le_of_ble_eq_true rfl) (Nat.le_of_ble_eq_true rfl) dX3_init_1 ?_
  refine aq_aload_n F 0 dX3_init_4 rfl rfl ?_
  refine aq_new (n := 158) F (T := TX2) (N := 5) in_X2 tyX2 tyX2_ok nmX2 (by decide +kernel : am_ly 158 = (2, 0)) (by decide) rfl [0, 1] wd_240 wd_94 wd_5 (aq_def_2 (hf0 158 (by omega)).2.1) ⟨Nat.le_of_ble_eq_true rfl, Nat.le_of_ble_eq_true rfl⟩ dX3_init_5 ?_
  refine aq_dup F dX3_init_8 rfl ?_
  refine aq_callIN F hAO [] ci_X3_11 (ct_X2 l D E z 158 (aq_L2_158) M (aq_up U 157 [2, 0, 1]) (aq_fr_up (aq_fr.mono hf0 (by omega)) (by omega))) yn_X2_init rfl ⟨Nat.le_of_ble_eq_true rfl, Nat.le_of_ble_eq_true rfl⟩ rfl rfl (Nat.le_of_ble_eq_true rfl) ⟨Nat.le_of_ble_eq_true rfl, Nat.le_of_ble_eq_true rfl⟩ dX3_init_9 rfl ?_
  refine aq_putR F hmn (rest := [0, 1]) (T := TX3) (N := 3) in_X3 tyX3 tyX3_ok nmX3 (by decide +kernel : am_ly 157 = (3, 0)) (by omega) (by decide) rfl 2 (by decide) rfl rfl rfl wd_267 (ty := (.object "AisleScheduler$Plan")) (by decide +kernel) rfl rfl (by rw [aq_mask_len]; exact Nat.le_of_ble_eq_true rfl) (by rw [(show (aq_up U 157 [2, 0, 1]) 157 = [2, 0, 1] from by simp [aq_up])]; exact aq_mask_set (by decide) rfl) dX3_init_12 ?_
  rw [aq_up_up]
  refine aq_aload_n F 0 dX3_init_15 rfl rfl ?_
  refine aq_aload_n F 1 dX3_init_16 rfl rfl ?_
  refine aq_putR F hmn (rest := [1]) (T := TX3) (N := 3) in_X3 tyX3 tyX3_ok nmX3 (by decide +kernel : am_ly 157 = (3, 0)) (by omega) (by decide) rfl 0 (by decide) rfl rfl rfl wd_265 (ty := (.object "AisleScheduler$World")) (by decide +kernel) rfl rfl (by rw [aq_mask_len]; exact Nat.le_of_ble_eq_true rfl) (by rw [(show (aq_up U 157 [0, 1]) 157 = [0, 1] from by simp [aq_up])]; exact aq_mask_set (by decide) rfl) dX3_init_17 ?_
  rw [aq_up_up]
  refine aq_aload_n F 0 dX3_init_20 rfl rfl ?_
  refine aq_new (n := 161) F (T := TX0) (N := 5) in_X0 tyX0 tyX0_ok nmX0 (by decide +kernel : am_ly 161 = (0, 0)) (by decide) rfl [1, 2, 3, 4, 0] wd_242 wd_243 wd_8 (aq_def_0 (hf0 161 (by omega)).2.1) ⟨Nat.le_of_ble_eq_true rfl, Nat.le_of_ble_eq_true rfl⟩ dX3_init_21 ?_
  refine aq_dup F dX3_init_24 rfl ?_
  refine aq_aload_n F 1 dX3_init_25 rfl rfl ?_
  refine aq_get F (T := TX8) (N := 9) in_X8 lyk_1 (by omega) (by decide) rfl 0 (by decide) rfl wd_197 (v := .ref (z + 2)) (by rw [(show (aq_up (aq_up U 157 [1]) 161 [1, 2, 3, 4, 0]) 1 = [] from by simp [aq_up, hW0]), aq_mask_nil]; rfl) dX3_init_26 ?_
  refine aq_callI F hAO [.ref (z + 2)] ci_X3_30 (ct_X0 l D E z  M (aq_up U 157 [1]) (aq_fr_up (aq_fr.mono hf0 (by omega)) (by omega)) (show (aq_up U 157 [1]) 1 = [] from by simp [aq_up, hW0]) (show (aq_up U 157 [1]) 2 = [] from by simp [aq_up, hW1])) yn_X0_init rfl ⟨Nat.le_of_ble_eq_true rfl, Nat.le_of_ble_eq_true rfl⟩ rfl rfl (Nat.le_of_ble_eq_true rfl) ⟨Nat.le_of_ble_eq_true rfl, Nat.le_of_ble_eq_true rfl⟩ dX3_init_29 rfl ?_
  refine aq_putR F hmn (rest := []) (T := TX3) (N := 3) in_X3 tyX3 tyX3_ok nmX3 (by decide +kernel : am_ly 157 = (3, 0)) (by omega) (by decide) rfl 1 (by decide) rfl rfl rfl wd_266 (ty := (.object "AisleScheduler$Finder")) (by decide +kernel) rfl rfl (by rw [aq_mask_len]; exact Nat.le_of_ble_eq_true rfl) (by rw [(show (aq_up U 157 [1]) 157 = [1] from by simp [aq_up])]; exact aq_mask_set (by decide) rfl) dX3_init_32 ?_
  rw [aq_up_up]
  exact aq_vret F hr ⟨Nat.le_of_ble_eq_true rfl, Nat.le_of_ble_eq_true rfl⟩ rfl (by rw [aq_up_id (U := U) (r := 157) (v := []) ((hf0 157 (by omega)).1)]) rfl dX3_init_35
abbrev rm_X6_init : Room := { frames := 1, cells := 2, slots := 30, locals := 40 }
theorem yn_X6_init : am_yn yX6_init 0 := ⟨⟨by decide +kernel, by decide +kernel⟩, by decide +kernel⟩
set_option maxHeartbeats 4000000 in
set_option maxRecDepth 100000 in
theorem ct_X6 (l : Launch) (D : va_G) (E : Nat → ClassId) (z : Nat) (M : am_M) (U : Nat → List Nat) (hf0 : aq_fr M U 166) : aq_Mc l yX6_init cX6_init 1 rm_X6_init D E z [.ref (z + 166)] M (aq_up U 166 [0, 1]) 167 2 30 M U 169 := by
  refine aq_of (own := RX6) (by decide +kernel) rfl (by exact Nat.le_of_ble_eq_true rfl) ?_
  intro p e s m args below meth c F hr hmn hAO hsz
  show aq_W p l e rm_X6_init s m args below meth c _ 1 D E z 0 0 M (aq_up U 166 [0, 1]) 167 0 [(0, .ref (z + 166))] []
  refine aq_aload_n F 0 dX6_init_0 rfl rfl ?_
  refine aq_objInit F wd_281 (Nat.le_of_ble_eq_true rfl) (Nat.le_of_ble_eq_true rfl) dX6_init_1 ?_
  refine aq_aload_n F 0 dX6_init_4 rfl rfl ?_
  refine aq_bipush F (v := (6 : Int32)) dX6_init_5 (by decide) ?_
  refine aq_newa (n := 167) F (atype := .int) (ty := .int) 0 (by decide +kernel : am_ly 167 = (20, 6)) (by decide) rfl ((show (aq_up U 166 [0, 1]) 167 = U 167 from by simp [aq_up]).trans (hf0 167 (by omega)).1) aq_wa20 rfl (fun _ h => h) (aq_cell20 (hf0 167 (by omega)).2.1) rfl (by decide) (by decide) (Nat.le_of_ble_eq_true rfl) ⟨Nat.le_of_ble_eq_true rfl, Nat.le_of_ble_eq_true rfl⟩ dX6_init_7 ?_
  refine aq_putR F hmn (rest := [1]) (T := TX6) (N := 2) in_X6 tyX6 tyX6_ok nmX6 (by decide +kernel : am_ly 166 = (6, 0)) (by omega) (by decide) rfl 0 (by decide) rfl rfl rfl wd_282 (ty := (.array .int)) (by decide +kernel) rfl rfl (by rw [aq_mask_len]; exact Nat.le_of_ble_eq_true rfl) (by rw [(show (aq_up U 166 [0, 1]) 166 = [0, 1] from by simp [aq_up])]; exact aq_mask_set (by decide) rfl) dX6_init_9 ?_
  rw [aq_up_up]
  refine aq_aload_n F 0 dX6_init_12 rfl rfl ?_
  refine aq_bipush F (v := (24 : Int32)) dX6_init_13 (by decide) ?_
  refine aq_newa (n := 168) F (atype := .int) (ty := .int) 0 (by decide +kernel : am_ly 168 = (20, 24)) (by decide) rfl ((show (aq_up U 166 [1]) 168 = U 168 from by simp [aq_up]).trans (hf0 168 (by omega)).1) aq_wa20 rfl (fun _ h => h) (aq_cell20 (hf0 168 (by omega)).2.1) rfl (by decide) (by decide) (Nat.le_of_ble_eq_true rfl) ⟨Nat.le_of_ble_eq_true rfl, Nat.le_of_ble_eq_true rfl⟩ dX6_init_15 ?_
  refine aq_putR F hmn (rest := []) (T := TX6) (N := 2) in_X6 tyX6 tyX6_ok nmX6 (by decide +kernel : am_ly 166 = (6, 0)) (by omega) (by decide) rfl 1 (by decide) rfl rfl rfl wd_284 (ty := (.array .int)) (by decide +kernel) rfl rfl (by rw [aq_mask_len]; exact Nat.le_of_ble_eq_true rfl) (by rw [(show (aq_up U 166 [1]) 166 = [1] from by simp [aq_up])]; exact aq_mask_set (by decide) rfl) dX6_init_17 ?_
  rw [aq_up_up]
  exact aq_vret F hr ⟨Nat.le_of_ble_eq_true rfl, Nat.le_of_ble_eq_true rfl⟩ rfl (by rw [aq_up_id (U := U) (r := 166) (v := []) ((hf0 166 (by omega)).1)]) rfl dX6_init_20
abbrev rm_X5_init : Room := { frames := 1, cells := 4, slots := 82, locals := 40 }
theorem yn_X5_init : am_yn yX5_init 0 := ⟨⟨by decide +kernel, by decide +kernel⟩, by decide +kernel⟩
set_option maxHeartbeats 4000000 in
set_option maxRecDepth 100000 in
theorem ct_X5 (l : Launch) (D : va_G) (E : Nat → ClassId) (z : Nat) (M : am_M) (U : Nat → List Nat) (hf0 : aq_fr M U 169) : aq_Mc l yX5_init cX5_init 1 rm_X5_init D E z [.ref (z + 169)] M (aq_up U 169 [2, 3, 4, 5]) 170 4 82 M U 174 := by
  refine aq_of (own := RX5) (by decide +kernel) rfl (by exact Nat.le_of_ble_eq_true rfl) ?_
  intro p e s m args below meth c F hr hmn hAO hsz
  show aq_W p l e rm_X5_init s m args below meth c _ 1 D E z 0 0 M (aq_up U 169 [2, 3, 4, 5]) 170 0 [(0, .ref (z + 169))] []
  refine aq_aload_n F 0 dX5_init_0 rfl rfl ?_
  refine aq_objInit F wd_296 (Nat.le_of_ble_eq_true rfl) (Nat.le_of_ble_eq_true rfl) dX5_init_1 ?_
  refine aq_aload_n F 0 dX5_init_4 rfl rfl ?_
  refine aq_bipush F (v := (14 : Int32)) dX5_init_5 (by decide) ?_
  refine aq_newa (n := 170) F (atype := .int) (ty := .int) 0 (by decide +kernel : am_ly 170 = (20, 14)) (by decide) rfl ((show (aq_up U 169 [2, 3, 4, 5]) 170 = U 170 from by simp [aq_up]).trans (hf0 170 (by omega)).1) aq_wa20 rfl (fun _ h => h) (aq_cell20 (hf0 170 (by omega)).2.1) rfl (by decide) (by decide) (Nat.le_of_ble_eq_true rfl) ⟨Nat.le_of_ble_eq_true rfl, Nat.le_of_ble_eq_true rfl⟩ dX5_init_7 ?_
  refine aq_putR F hmn (rest := [3, 4, 5]) (T := TX5) (N := 8) in_X5 tyX5 tyX5_ok nmX5 (by decide +kernel : am_ly 169 = (5, 0)) (by omega) (by decide) rfl 2 (by decide) rfl rfl rfl wd_301 (ty := (.array .int)) (by decide +kernel) rfl rfl (by rw [aq_mask_len]; exact Nat.le_of_ble_eq_true rfl) (by rw [(show (aq_up U 169 [2, 3, 4, 5]) 169 = [2, 3, 4, 5] from by simp [aq_up])]; exact aq_mask_set (by decide) rfl) dX5_init_9 ?_
  rw [aq_up_up]
  refine aq_aload_n F 0 dX5_init_12 rfl rfl ?_
  refine aq_bipush F (v := (14 : Int32)) dX5_init_13 (by decide) ?_
  refine aq_newa (n := 171) F (atype := .int) (ty := .int) 0 (by decide +kernel : am_ly 171 = (20, 14)) (by decide) rfl ((show (aq_up U 169 [3, 4, 5]) 171 = U 171 from by simp [aq_up]).trans (hf0 171 (by omega)).1) aq_wa20 rfl (fun _ h => h) (aq_cell20 (hf0 171 (by omega)).2.1) rfl (by decide) (by decide) (Nat.le_of_ble_eq_true rfl) ⟨Nat.le_of_ble_eq_true rfl, Nat.le_of_ble_eq_true rfl⟩ dX5_init_15 ?_
  refine aq_putR F hmn (rest := [4, 5]) (T := TX5) (N := 8) in_X5 tyX5 tyX5_ok nmX5 (by decide +kernel : am_ly 169 = (5, 0)) (by omega) (by decide) rfl 3 (by decide) rfl rfl rfl wd_303 (ty := (.array .int)) (by decide +kernel) rfl rfl (by rw [aq_mask_len]; exact Nat.le_of_ble_eq_true rfl) (by rw [(show (aq_up U 169 [3, 4, 5]) 169 = [3, 4, 5] from by simp [aq_up])]; exact aq_mask_set (by decide) rfl) dX5_init_17 ?_
  rw [aq_up_up]
  refine aq_aload_n F 0 dX5_init_20 rfl rfl ?_
  refine aq_bipush F (v := (14 : Int32)) dX5_init_21 (by decide) ?_
  refine aq_newa (n := 172) F (atype := .int) (ty := .int) 0 (by decide +kernel : am_ly 172 = (20, 14)) (by decide) rfl ((show (aq_up U 169 [4, 5]) 172 = U 172 from by simp [aq_up]).trans (hf0 172 (by omega)).1) aq_wa20 rfl (fun _ h => h) (aq_cell20 (hf0 172 (by omega)).2.1) rfl (by decide) (by decide) (Nat.le_of_ble_eq_true rfl) ⟨Nat.le_of_ble_eq_true rfl, Nat.le_of_ble_eq_true rfl⟩ dX5_init_23 ?_
  refine aq_putR F hmn (rest := [5]) (T := TX5) (N := 8) in_X5 tyX5 tyX5_ok nmX5 (by decide +kernel : am_ly 169 = (5, 0)) (by omega) (by decide) rfl 4 (by decide) rfl rfl rfl wd_305 (ty := (.array .int)) (by decide +kernel) rfl rfl (by rw [aq_mask_len]; exact Nat.le_of_ble_eq_true rfl) (by rw [(show (aq_up U 169 [4, 5]) 169 = [4, 5] from by simp [aq_up])]; exact aq_mask_set (by decide) rfl) dX5_init_25 ?_
  rw [aq_up_up]
  refine aq_aload_n F 0 dX5_init_28 rfl rfl ?_
  refine aq_bipush F (v := (40 : Int32)) dX5_init_29 (by decide) ?_
  refine aq_newa (n := 173) F (atype := .int) (ty := .int) 0 (by decide +kernel : am_ly 173 = (20, 40)) (by decide) rfl ((show (aq_up U 169 [5]) 173 = U 173 from by simp [aq_up]).trans (hf0 173 (by omega)).1) aq_wa20 rfl (fun _ h => h) (aq_cell20 (hf0 173 (by omega)).2.1) rfl (by decide) (by decide) (Nat.le_of_ble_eq_true rfl) ⟨Nat.le_of_ble_eq_true rfl, Nat.le_of_ble_eq_true rfl⟩ dX5_init_31 ?_
  refine aq_putR F hmn (rest := []) (T := TX5) (N := 8) in_X5 tyX5 tyX5_ok nmX5 (by decide +kernel : am_ly 169 = (5, 0)) (by omega) (by decide) rfl 5 (by decide) rfl rfl rfl wd_307 (ty := (.array .int)) (by decide +kernel) rfl rfl (by rw [aq_mask_len]; exact Nat.le_of_ble_eq_true rfl) (by rw [(show (aq_up U 169 [5]) 169 = [5] from by simp [aq_up])]; exact aq_mask_set (by decide) rfl) dX5_init_33 ?_
  rw [aq_up_up]
  exact aq_vret F hr ⟨Nat.le_of_ble_eq_true rfl, Nat.le_of_ble_eq_true rfl⟩ rfl (by rw [aq_up_id (U := U) (r := 169) (v := []) ((hf0 169 (by omega)).1)]) rfl dX5_init_36
abbrev rm_X9_init : Room := { frames := 5, cells := 173, slots := 4732, locals := 109 }
theorem yn_X9_init : am_yn yX9_init 0 := ⟨⟨by decide +kernel, by decide +kernel⟩, by decide +kernel⟩
set_option maxHeartbeats 4000000 in
set_option maxRecDepth 100000 in
theorem ct_X9 (l : Launch) (D : va_G) (E : Nat → ClassId) (z : Nat) (M : am_M) (U : Nat → List Nat) (hf0 : aq_fr M U 0) (M1 : am_M) (he1 : g_X1_empty 2 M = some ((), M1)) (hg1 : aq_fr M1 U 7) (M2 : am_M) (he2 : g_X1_empty 54 M1 = some ((), M2)) (hg2 : aq_fr M2 U 59) (M3 : am_M) (he3 : g_X1_empty 106 M2 = some ((), M3)) (hg3 : aq_fr M3 U 111) : aq_Mc l yX9_init cX9_init 1 rm_X9_init D E z [.ref (z + 0)] M (aq_up U 0 [0, 1, 2, 3, 4, 5]) 1 173 4732 (am_s (am_s M3 0 6 (0 : Int32)) 0 7 (-1 : Int32)) U 174 := by
  refine aq_of (own := RX9) (by decide +kernel) rfl (by exact Nat.le_of_ble_eq_true rfl) ?_
  intro p e s m args below meth c F hr hmn hAO hsz
  show aq_W p l e rm_X9_init s m args below meth c _ 1 D E z 0 0 M (aq_up U 0 [0, 1, 2, 3, 4, 5]) 1 0 [(0, .ref (z + 0))] []
  have hW1 : U 2 = [] := (hf0 2 (by omega)).1
  have hW0 : U 1 = [] := (hf0 1 (by omega)).1
  refine aq_aload_n F 0 dX9_init_0 rfl rfl ?_
  refine aq_objInit F wd_31 (Nat.le_of_ble_eq_true rfl) (Nat.le_of_ble_eq_true rfl) dX9_init_1 ?_
  refine aq_aload_n F 0 dX9_init_4 rfl rfl ?_
  refine aq_new (n := 1) F (T := TX8) (N := 9) in_X8 tyX8 tyX8_ok nmX8 (by decide +kernel : am_ly 1 = (8, 0)) (by decide) rfl [0, 1, 5, 6, 7, 8] wd_34 wd_35 wd_2 (aq_def_8 (hf0 1 (by omega)).2.1) ⟨Nat.le_of_ble_eq_true rfl, Nat.le_of_ble_eq_true rfl⟩ dX9_init_5 ?_
  refine aq_dup F dX9_init_8 rfl ?_
  refine aq_callI F hAO [] ci_X9_11 (ct_X8 l D E z 1 (aq_L8_1) M (aq_up U 0 [0, 1, 2, 3, 4, 5]) (aq_fr_up (aq_fr.mono hf0 (by omega)) (by omega)) M1 he1 (aq_fr_up hg1 (by omega))) yn_X8_init rfl ⟨Nat.le_of_ble_eq_true rfl, Nat.le_of_ble_eq_true rfl⟩ rfl rfl (Nat.le_of_ble_eq_true rfl) ⟨Nat.le_of_ble_eq_true rfl, Nat.le_of_ble_eq_true rfl⟩ dX9_init_9 rfl ?_
  refine aq_putR F hmn (rest := [1, 2, 3, 4, 5]) (T := TX9) (N := 8) in_X9 tyX9 tyX9_ok nmX9 (by decide +kernel : am_ly 0 = (9, 0)) (by omega) (by decide) rfl 0 (by decide) rfl rfl rfl wd_327 (ty := (.object "AisleScheduler$World")) (by decide +kernel) rfl rfl (by rw [aq_mask_len]; exact Nat.le_of_ble_eq_true rfl) (by rw [(show (aq_up U 0 [0, 1, 2, 3, 4, 5]) 0 = [0, 1, 2, 3, 4, 5] from by simp [aq_up])]; exact aq_mask_set (by decide) rfl) dX9_init_12 ?_
  rw [aq_up_up]
  refine aq_aload_n F 0 dX9_init_15 rfl rfl ?_
  refine aq_new (n := 53) F (T := TX8) (N := 9) in_X8 tyX8 tyX8_ok nmX8 (by decide +kernel : am_ly 53 = (8, 0)) (by decide) rfl [0, 1, 5, 6, 7, 8] wd_34 wd_35 wd_2 (aq_def_8 (hg1 53 (by omega)).2.1) ⟨Nat.le_of_ble_eq_true rfl, Nat.le_of_ble_eq_true rfl⟩ dX9_init_16 ?_
  refine aq_dup F dX9_init_19 rfl ?_
  refine aq_callI F hAO [] ci_X9_11 (ct_X8 l D E z 53 (aq_L8_53) M1 (aq_up U 0 [1, 2, 3, 4, 5]) (aq_fr_up (aq_fr.mono hg1 (by omega)) (by omega)) M2 he2 (aq_fr_up hg2 (by omega))) yn_X8_init rfl ⟨Nat.le_of_ble_eq_true rfl, Nat.le_of_ble_eq_true rfl⟩ rfl rfl (Nat.le_of_ble_eq_true rfl) ⟨Nat.le_of_ble_eq_true rfl, Nat.le_of_ble_eq_true rfl⟩ dX9_init_20 rfl ?_
  refine aq_putR F hmn (rest := [2, 3, 4, 5]) (T := TX9) (N := 8) in_X9 tyX9 tyX9_ok nmX9 (by decide +kernel : am_ly 0 = (9, 0)) (by omega) (by decide) rfl 1 (by decide) rfl rfl rfl wd_328 (ty := (.object "AisleScheduler$World")) (by decide +kernel) rfl rfl (by rw [aq_mask_len]; exact Nat.le_of_ble_eq_true rfl) (by rw [(show (aq_up U 0 [1, 2, 3, 4, 5]) 0 = [1, 2, 3, 4, 5] from by simp [aq_up])]; exact aq_mask_set (by decide) rfl) dX9_init_23 ?_
  rw [aq_up_up]
  refine aq_aload_n F 0 dX9_init_26 rfl rfl ?_
  refine aq_new (n := 105) F (T := TX8) (N := 9) in_X8 tyX8 tyX8_ok nmX8 (by decide +kernel : am_ly 105 = (8, 0)) (by decide) rfl [0, 1, 5, 6, 7, 8] wd_34 wd_35 wd_2 (aq_def_8 (hg2 105 (by omega)).2.1) ⟨Nat.le_of_ble_eq_true rfl, Nat.le_of_ble_eq_true rfl⟩ dX9_init_27 ?_
  refine aq_dup F dX9_init_30 rfl ?_
  refine aq_callI F hAO [] ci_X9_11 (ct_X8 l D E z 105 (aq_L8_105) M2 (aq_up U 0 [2, 3, 4, 5]) (aq_fr_up (aq_fr.mono hg2 (by omega)) (by omega)) M3 he3 (aq_fr_up hg3 (by omega))) yn_X8_init rfl ⟨Nat.le_of_ble_eq_true rfl, Nat.le_of_ble_eq_true rfl⟩ rfl rfl (Nat.le_of_ble_eq_true rfl) ⟨Nat.le_of_ble_eq_true rfl, Nat.le_of_ble_eq_true rfl⟩ dX9_init_31 rfl ?_
  refine aq_putR F hmn (rest := [3, 4, 5]) (T := TX9) (N := 8) in_X9 tyX9 tyX9_ok nmX9 (by decide +kernel : am_ly 0 = (9, 0)) (by omega) (by decide) rfl 2 (by decide) rfl rfl rfl wd_329 (ty := (.object "AisleScheduler$World")) (by decide +kernel) rfl rfl (by rw [aq_mask_len]; exact Nat.le_of_ble_eq_true rfl) (by rw [(show (aq_up U 0 [2, 3, 4, 5]) 0 = [2, 3, 4, 5] from by simp [aq_up])]; exact aq_mask_set (by decide) rfl) dX9_init_34 ?_
  rw [aq_up_up]
  refine aq_aload_n F 0 dX9_init_37 rfl rfl ?_
  refine aq_new (n := 157) F (T := TX3) (N := 3) in_X3 tyX3 tyX3_ok nmX3 (by decide +kernel : am_ly 157 = (3, 0)) (by decide) rfl [2, 0, 1] wd_234 wd_235 wd_7 (aq_def_3 (hg3 157 (by omega)).2.1) ⟨Nat.le_of_ble_eq_true rfl, Nat.le_of_ble_eq_true rfl⟩ dX9_init_38 ?_
  refine aq_dup F dX9_init_41 rfl ?_
  refine aq_aload_n F 0 dX9_init_42 rfl rfl ?_
  refine aq_get F (T := TX9) (N := 8) in_X9 (by decide +kernel : am_ly 0 = (9, 0)) (by omega) (by decide) rfl 0 (by decide) rfl wd_327 (v := .ref (z + 1)) (by rw [(show (aq_up (aq_up U 0 [3, 4, 5]) 157 [2, 0, 1]) 0 = [3, 4, 5] from by simp [aq_up])]; exact aq_mask_get (by decide) rfl) dX9_init_43 ?_
  refine aq_callI F hAO [.ref (z + 1)] ci_X9_24 (ct_X3 l D E z  M3 (aq_up U 0 [3, 4, 5]) (aq_fr_up (aq_fr.mono hg3 (by omega)) (by omega)) (show (aq_up U 0 [3, 4, 5]) 1 = [] from by simp [aq_up, hW0]) (show (aq_up U 0 [3, 4, 5]) 2 = [] from by simp [aq_up, hW1])) yn_X3_init rfl ⟨Nat.le_of_ble_eq_true rfl, Nat.le_of_ble_eq_true rfl⟩ rfl rfl (Nat.le_of_ble_eq_true rfl) ⟨Nat.le_of_ble_eq_true rfl, Nat.le_of_ble_eq_true rfl⟩ dX9_init_46 rfl ?_
  refine aq_putR F hmn (rest := [4, 5]) (T := TX9) (N := 8) in_X9 tyX9 tyX9_ok nmX9 (by decide +kernel : am_ly 0 = (9, 0)) (by omega) (by decide) rfl 3 (by decide) rfl rfl rfl wd_330 (ty := (.object "AisleScheduler$Planner")) (by decide +kernel) rfl rfl (by rw [aq_mask_len]; exact Nat.le_of_ble_eq_true rfl) (by rw [(show (aq_up U 0 [3, 4, 5]) 0 = [3, 4, 5] from by simp [aq_up])]; exact aq_mask_set (by decide) rfl) dX9_init_49 ?_
  rw [aq_up_up]
  refine aq_aload_n F 0 dX9_init_52 rfl rfl ?_
  refine aq_new (n := 166) F (T := TX6) (N := 2) in_X6 tyX6 tyX6_ok nmX6 (by decide +kernel : am_ly 166 = (6, 0)) (by decide) rfl [0, 1] wd_276 wd_277 wd_9 (aq_def_6 (hg3 166 (by omega)).2.1) ⟨Nat.le_of_ble_eq_true rfl, Nat.le_of_ble_eq_true rfl⟩ dX9_init_53 ?_
  refine aq_dup F dX9_init_56 rfl ?_
  refine aq_callIN F hAO [] ci_X9_33 (ct_X6 l D E z  M3 (aq_up U 0 [4, 5]) (aq_fr_up (aq_fr.mono hg3 (by omega)) (by omega))) yn_X6_init rfl ⟨Nat.le_of_ble_eq_true rfl, Nat.le_of_ble_eq_true rfl⟩ rfl rfl (Nat.le_of_ble_eq_true rfl) ⟨Nat.le_of_ble_eq_true rfl, Nat.le_of_ble_eq_true rfl⟩ dX9_init_57 rfl ?_
  refine aq_putR F hmn (rest := [5]) (T := TX9) (N := 8) in_X9 tyX9 tyX9_ok nmX9 (by decide +kernel : am_ly 0 = (9, 0)) (by omega) (by decide) rfl 4 (by decide) rfl rfl rfl wd_331 (ty := (.object "AisleScheduler$Shelves")) (by decide +kernel) rfl rfl (by rw [aq_mask_len]; exact Nat.le_of_ble_eq_true rfl) (by rw [(show (aq_up U 0 [4, 5]) 0 = [4, 5] from by simp [aq_up])]; exact aq_mask_set (by decide) rfl) dX9_init_60 ?_
  rw [aq_up_up]
  refine aq_aload_n F 0 dX9_init_63 rfl rfl ?_
  refine aq_new (n := 169) F (T := TX5) (N := 8) in_X5 tyX5 tyX5_ok nmX5 (by decide +kernel : am_ly 169 = (5, 0)) (by decide) rfl [2, 3, 4, 5] wd_291 wd_292 wd_10 (aq_def_5 (hg3 169 (by omega)).2.1) ⟨Nat.le_of_ble_eq_true rfl, Nat.le_of_ble_eq_true rfl⟩ dX9_init_64 ?_
  refine aq_dup F dX9_init_67 rfl ?_
  refine aq_callIN F hAO [] ci_X9_40 (ct_X5 l D E z  M3 (aq_up U 0 [5]) (aq_fr_up (aq_fr.mono hg3 (by omega)) (by omega))) yn_X5_init rfl ⟨Nat.le_of_ble_eq_true rfl, Nat.le_of_ble_eq_true rfl⟩ rfl rfl (Nat.le_of_ble_eq_true rfl) ⟨Nat.le_of_ble_eq_true rfl, Nat.le_of_ble_eq_true rfl⟩ dX9_init_68 rfl ?_
  refine aq_putR F hmn (rest := []) (T := TX9) (N := 8) in_X9 tyX9 tyX9_ok nmX9 (by decide +kernel : am_ly 0 = (9, 0)) (by omega) (by decide) rfl 5 (by decide) rfl rfl rfl wd_332 (ty := (.object "AisleScheduler$Script")) (by decide +kernel) rfl rfl (by rw [aq_mask_len]; exact Nat.le_of_ble_eq_true rfl) (by rw [(show (aq_up U 0 [5]) 0 = [5] from by simp [aq_up])]; exact aq_mask_set (by decide) rfl) dX9_init_71 ?_
  rw [aq_up_up]
  refine aq_aload_n F 0 dX9_init_74 rfl rfl ?_
  refine aq_iconst F (v := (0 : Int32)) dX9_init_75 (by decide) ?_
  refine aq_put F (T := TX9) (N := 8) in_X9 tyX9 tyX9_ok nmX9 (by decide +kernel : am_ly 0 = (9, 0)) (by omega) (by decide) rfl 6 (by decide) rfl rfl wd_333 (ty := .boolean) (by decide +kernel) rfl rfl (by rw [aq_mask_len]; exact Nat.le_of_ble_eq_true rfl) (by rw [(show (aq_up U 0 []) 0 = [] from by simp [aq_up])]; simp [aq_mask, am_fs, am_g, am_s, List.range, List.range.loop]) dX9_init_76 ?_
  refine aq_aload_n F 0 dX9_init_79 rfl rfl ?_
  refine aq_iconst F (v := (-1 : Int32)) dX9_init_80 (by decide) ?_
  refine aq_put F (T := TX9) (N := 8) in_X9 tyX9 tyX9_ok nmX9 (by decide +kernel : am_ly 0 = (9, 0)) (by omega) (by decide) rfl 7 (by decide) rfl rfl wd_334 (ty := .int) (by decide +kernel) rfl rfl (by rw [aq_mask_len]; exact Nat.le_of_ble_eq_true rfl) (by rw [(show (aq_up U 0 []) 0 = [] from by simp [aq_up])]; simp [aq_mask, am_fs, am_g, am_s, List.range, List.range.loop]) dX9_init_81 ?_
  exact aq_vret F hr ⟨Nat.le_of_ble_eq_true rfl, Nat.le_of_ble_eq_true rfl⟩ rfl (by rw [aq_up_id (U := U) (r := 0) (v := []) ((hf0 0 (by omega)).1)]) rfl dX9_init_84
abbrev rm_X10_init : Room := { frames := 1, cells := 11, slots := 4176, locals := 40 }
theorem yn_X10_init : am_yn yX10_init 0 := ⟨⟨by decide +kernel, by decide +kernel⟩, by decide +kernel⟩
set_option maxHeartbeats 4000000 in
set_option maxRecDepth 100000 in
theorem ct_X10 (l : Launch) (D : va_G) (E : Nat → ClassId) (z : Nat) (M : am_M) (U : Nat → List Nat) (hf0 : aq_fr M U 174) : aq_Mc l yX10_init cX10_init 2 rm_X10_init D E z [.ref (z + 174)] M (aq_up U 174 [1, 2, 3, 5, 6, 9, 10, 12, 13, 14, 18]) 175 11 4176 (am_s (am_s (am_s (am_s (am_s (am_s (am_s (am_s (am_s (am_s (am_s (am_s (am_s (am_s (am_s (am_s (am_s (am_s (am_s (am_s (am_s (am_s (am_s (am_s (am_s (am_s M 174 8 (-1 : Int32)) 174 11 (-1 : Int32)) 178 ((0 : Int32)).toNatClampNeg (-1 : Int32)) 178 ((1 : Int32)).toNatClampNeg (-1 : Int32)) 178 ((2 : Int32)).toNatClampNeg (-1 : Int32)) 178 ((3 : Int32)).toNatClampNeg (-1 : Int32)) 178 ((4 : Int32)).toNatClampNeg (-1 : Int32)) 178 ((5 : Int32)).toNatClampNeg (-1 : Int32)) 178 ((6 : Int32)).toNatClampNeg (-1 : Int32)) 178 ((7 : Int32)).toNatClampNeg (-1 : Int32)) 178 ((8 : Int32)).toNatClampNeg (-1 : Int32)) 178 ((9 : Int32)).toNatClampNeg (-1 : Int32)) 178 ((10 : Int32)).toNatClampNeg (-1 : Int32)) 178 ((11 : Int32)).toNatClampNeg (-1 : Int32)) 178 ((12 : Int32)).toNatClampNeg (-1 : Int32)) 178 ((13 : Int32)).toNatClampNeg (-1 : Int32)) 178 ((14 : Int32)).toNatClampNeg (-1 : Int32)) 178 ((15 : Int32)).toNatClampNeg (-1 : Int32)) 178 ((16 : Int32)).toNatClampNeg (-1 : Int32)) 178 ((17 : Int32)).toNatClampNeg (-1 : Int32)) 178 ((18 : Int32)).toNatClampNeg (-1 : Int32)) 178 ((19 : Int32)).toNatClampNeg (-1 : Int32)) 178 ((20 : Int32)).toNatClampNeg (-1 : Int32)) 178 ((21 : Int32)).toNatClampNeg (-1 : Int32)) 178 ((22 : Int32)).toNatClampNeg (-1 : Int32)) 178 ((23 : Int32)).toNatClampNeg (-1 : Int32)) U 186 := by
  refine aq_of (own := RX10) (by decide +kernel) rfl (by exact Nat.le_of_ble_eq_true rfl) ?_
  intro p e s m args below meth c F hr hmn hAO hsz
  show aq_W p l e rm_X10_init s m args below meth c _ 2 D E z 0 0 M (aq_up U 174 [1, 2, 3, 5, 6, 9, 10, 12, 13, 14, 18]) 175 0 [(0, .ref (z + 174))] []
  refine aq_aload_n F 0 dX10_init_0 rfl rfl ?_
  refine aq_objInit F wd_1294 (Nat.le_of_ble_eq_true rfl) (Nat.le_of_ble_eq_true rfl) dX10_init_1 ?_
  refine aq_aload_n F 0 dX10_init_4 rfl rfl ?_
  refine aq_sipush F (v := (406 : Int32)) dX10_init_5 (by decide) ?_
  refine aq_newa (n := 175) F (atype := .int) (ty := .int) 0 (by decide +kernel : am_ly 175 = (20, 406)) (by decide) rfl ((show (aq_up U 174 [1, 2, 3, 5, 6, 9, 10, 12, 13, 14, 18]) 175 = U 175 from by simp [aq_up]).trans (hf0 175 (by omega)).1) aq_wa20 rfl (fun _ h => h) (aq_cell20 (hf0 175 (by omega)).2.1) rfl (by decide) (by decide) (Nat.le_of_ble_eq_true rfl) ⟨Nat.le_of_ble_eq_true rfl, Nat.le_of_ble_eq_true rfl⟩ dX10_init_8 ?_
  refine aq_putR F hmn (rest := [2, 3, 5, 6, 9, 10, 12, 13, 14, 18]) (T := TX10) (N := 21) in_X10 tyX10 tyX10_ok nmX10 (by decide +kernel : am_ly 174 = (10, 0)) (by omega) (by decide) rfl 1 (by decide) rfl rfl rfl wd_1296 (ty := (.array .int)) (by decide +kernel) rfl rfl (by rw [aq_mask_len]; exact Nat.le_of_ble_eq_true rfl) (by rw [(show (aq_up U 174 [1, 2, 3, 5, 6, 9, 10, 12, 13, 14, 18]) 174 = [1, 2, 3, 5, 6, 9, 10, 12, 13, 14, 18] from by simp [aq_up])]; exact aq_mask_set (by decide) rfl) dX10_init_10 ?_
  rw [aq_up_up]
  refine aq_aload_n F 0 dX10_init_13 rfl rfl ?_
  refine aq_sipush F (v := (406 : Int32)) dX10_init_14 (by decide) ?_
  refine aq_newa (n := 176) F (atype := .int) (ty := .int) 0 (by decide +kernel : am_ly 176 = (20, 406)) (by decide) rfl ((show (aq_up U 174 [2, 3, 5, 6, 9, 10, 12, 13, 14, 18]) 176 = U 176 from by simp [aq_up]).trans (hf0 176 (by omega)).1) aq_wa20 rfl (fun _ h => h) (aq_cell20 (hf0 176 (by omega)).2.1) rfl (by decide) (by decide) (Nat.le_of_ble_eq_true rfl) ⟨Nat.le_of_ble_eq_true rfl, Nat.le_of_ble_eq_true rfl⟩ dX10_init_17 ?_
  refine aq_putR F hmn (rest := [3, 5, 6, 9, 10, 12, 13, 14, 18]) (T := TX10) (N := 21) in_X10 tyX10 tyX10_ok nmX10 (by decide +kernel : am_ly 174 = (10, 0)) (by omega) (by decide) rfl 2 (by decide) rfl rfl rfl wd_1297 (ty := (.array .int)) (by decide +kernel) rfl rfl (by rw [aq_mask_len]; exact Nat.le_of_ble_eq_true rfl) (by rw [(show (aq_up U 174 [2, 3, 5, 6, 9, 10, 12, 13, 14, 18]) 174 = [2, 3, 5, 6, 9, 10, 12, 13, 14, 18] from by simp [aq_up])]; exact aq_mask_set (by decide) rfl) dX10_init_19 ?_
  rw [aq_up_up]
  refine aq_aload_n F 0 dX10_init_22 rfl rfl ?_
  refine aq_sipush F (v := (406 : Int32)) dX10_init_23 (by decide) ?_
  refine aq_newa (n := 177) F (atype := .int) (ty := .int) 0 (by decide +kernel : am_ly 177 = (20, 406)) (by decide) rfl ((show (aq_up U 174 [3, 5, 6, 9, 10, 12, 13, 14, 18]) 177 = U 177 from by simp [aq_up]).trans (hf0 177 (by omega)).1) aq_wa20 rfl (fun _ h => h) (aq_cell20 (hf0 177 (by omega)).2.1) rfl (by decide) (by decide) (Nat.le_of_ble_eq_true rfl) ⟨Nat.le_of_ble_eq_true rfl, Nat.le_of_ble_eq_true rfl⟩ dX10_init_26 ?_
  refine aq_putR F hmn (rest := [5, 6, 9, 10, 12, 13, 14, 18]) (T := TX10) (N := 21) in_X10 tyX10 tyX10_ok nmX10 (by decide +kernel : am_ly 174 = (10, 0)) (by omega) (by decide) rfl 3 (by decide) rfl rfl rfl wd_1298 (ty := (.array .int)) (by decide +kernel) rfl rfl (by rw [aq_mask_len]; exact Nat.le_of_ble_eq_true rfl) (by rw [(show (aq_up U 174 [3, 5, 6, 9, 10, 12, 13, 14, 18]) 174 = [3, 5, 6, 9, 10, 12, 13, 14, 18] from by simp [aq_up])]; exact aq_mask_set (by decide) rfl) dX10_init_28 ?_
  rw [aq_up_up]
  refine aq_aload_n F 0 dX10_init_31 rfl rfl ?_
  refine aq_bipush F (v := (24 : Int32)) dX10_init_32 (by decide) ?_
  refine aq_newa (n := 178) F (atype := .int) (ty := .int) 0 (by decide +kernel : am_ly 178 = (20, 24)) (by decide) rfl ((show (aq_up U 174 [5, 6, 9, 10, 12, 13, 14, 18]) 178 = U 178 from by simp [aq_up]).trans (hf0 178 (by omega)).1) aq_wa20 rfl (fun _ h => h) (aq_cell20 (hf0 178 (by omega)).2.1) rfl (by decide) (by decide) (Nat.le_of_ble_eq_true rfl) ⟨Nat.le_of_ble_eq_true rfl, Nat.le_of_ble_eq_true rfl⟩ dX10_init_34 ?_
  refine aq_putR F hmn (rest := [6, 9, 10, 12, 13, 14, 18]) (T := TX10) (N := 21) in_X10 tyX10 tyX10_ok nmX10 (by decide +kernel : am_ly 174 = (10, 0)) (by omega) (by decide) rfl 5 (by decide) rfl rfl rfl wd_1300 (ty := (.array .int)) (by decide +kernel) rfl rfl (by rw [aq_mask_len]; exact Nat.le_of_ble_eq_true rfl) (by rw [(show (aq_up U 174 [5, 6, 9, 10, 12, 13, 14, 18]) 174 = [5, 6, 9, 10, 12, 13, 14, 18] from by simp [aq_up])]; exact aq_mask_set (by decide) rfl) dX10_init_36 ?_
  rw [aq_up_up]
  refine aq_aload_n F 0 dX10_init_39 rfl rfl ?_
  refine aq_bipush F (v := (40 : Int32)) dX10_init_40 (by decide) ?_
  refine aq_newa (n := 179) F (atype := .int) (ty := .int) 0 (by decide +kernel : am_ly 179 = (20, 40)) (by decide) rfl ((show (aq_up U 174 [6, 9, 10, 12, 13, 14, 18]) 179 = U 179 from by simp [aq_up]).trans (hf0 179 (by omega)).1) aq_wa20 rfl (fun _ h => h) (aq_cell20 (hf0 179 (by omega)).2.1) rfl (by decide) (by decide) (Nat.le_of_ble_eq_true rfl) ⟨Nat.le_of_ble_eq_true rfl, Nat.le_of_ble_eq_true rfl⟩ dX10_init_42 ?_
  refine aq_putR F hmn (rest := [9, 10, 12, 13, 14, 18]) (T := TX10) (N := 21) in_X10 tyX10 tyX10_ok nmX10 (by decide +kernel : am_ly 174 = (10, 0)) (by omega) (by decide) rfl 6 (by decide) rfl rfl rfl wd_1301 (ty := (.array .int)) (by decide +kernel) rfl rfl (by rw [aq_mask_len]; exact Nat.le_of_ble_eq_true rfl) (by rw [(show (aq_up U 174 [6, 9, 10, 12, 13, 14, 18]) 174 = [6, 9, 10, 12, 13, 14, 18] from by simp [aq_up])]; exact aq_mask_set (by decide) rfl) dX10_init_44 ?_
  rw [aq_up_up]
  refine aq_aload_n F 0 dX10_init_47 rfl rfl ?_
  refine aq_iconst F (v := (-1 : Int32)) dX10_init_48 (by decide) ?_
  refine aq_put F (T := TX10) (N := 21) in_X10 tyX10 tyX10_ok nmX10 (by decide +kernel : am_ly 174 = (10, 0)) (by omega) (by decide) rfl 8 (by decide) rfl rfl wd_1303 (ty := .int) (by decide +kernel) rfl rfl (by rw [aq_mask_len]; exact Nat.le_of_ble_eq_true rfl) (by rw [(show (aq_up U 174 [9, 10, 12, 13, 14, 18]) 174 = [9, 10, 12, 13, 14, 18] from by simp [aq_up])]; simp [aq_mask, am_fs, am_g, am_s, List.range, List.range.loop]) dX10_init_49 ?_
  refine aq_aload_n F 0 dX10_init_52 rfl rfl ?_
  refine aq_sipush F (v := (155 : Int32)) dX10_init_53 (by decide) ?_
  refine aq_newa (n := 180) F (atype := .int) (ty := .int) 0 (by decide +kernel : am_ly 180 = (20, 155)) (by decide) rfl ((show (aq_up U 174 [9, 10, 12, 13, 14, 18]) 180 = U 180 from by simp [aq_up]).trans ((aq_fr_s (a := 174) (k := 8) (v := (-1 : Int32)) (n := 180) (aq_fr.mono hf0 (by omega)) (by omega)) 180 (by omega)).1) aq_wa20 rfl (fun _ h => h) (aq_cell20 ((aq_fr_s (a := 174) (k := 8) (v := (-1 : Int32)) (n := 180) (aq_fr.mono hf0 (by omega)) (by omega)) 180 (by omega)).2.1) rfl (by decide) (by decide) (Nat.le_of_ble_eq_true rfl) ⟨Nat.le_of_ble_eq_true rfl, Nat.le_of_ble_eq_true rfl⟩ dX10_init_56 ?_
  refine aq_putR F hmn (rest := [10, 12, 13, 14, 18]) (T := TX10) (N := 21) in_X10 tyX10 tyX10_ok nmX10 (by decide +kernel : am_ly 174 = (10, 0)) (by omega) (by decide) rfl 9 (by decide) rfl rfl rfl wd_1304 (ty := (.array .int)) (by decide +kernel) rfl rfl (by rw [aq_mask_len]; exact Nat.le_of_ble_eq_true rfl) (by rw [(show (aq_up U 174 [9, 10, 12, 13, 14, 18]) 174 = [9, 10, 12, 13, 14, 18] from by simp [aq_up])]; exact aq_mask_set (by decide) rfl) dX10_init_58 ?_
  rw [aq_up_up]
  refine aq_aload_n F 0 dX10_init_61 rfl rfl ?_
  refine aq_sipush F (v := (155 : Int32)) dX10_init_62 (by decide) ?_
  refine aq_newa (n := 181) F (atype := .int) (ty := .int) 0 (by decide +kernel : am_ly 181 = (20, 155)) (by decide) rfl ((show (aq_up U 174 [10, 12, 13, 14, 18]) 181 = U 181 from by simp [aq_up]).trans ((aq_fr_s (a := 174) (k := 8) (v := (-1 : Int32)) (n := 181) (aq_fr.mono hf0 (by omega)) (by omega)) 181 (by omega)).1) aq_wa20 rfl (fun _ h => h) (aq_cell20 ((aq_fr_s (a := 174) (k := 8) (v := (-1 : Int32)) (n := 181) (aq_fr.mono hf0 (by omega)) (by omega)) 181 (by omega)).2.1) rfl (by decide) (by decide) (Nat.le_of_ble_eq_true rfl) ⟨Nat.le_of_ble_eq_true rfl, Nat.le_of_ble_eq_true rfl⟩ dX10_init_65 ?_
  refine aq_putR F hmn (rest := [12, 13, 14, 18]) (T := TX10) (N := 21) in_X10 tyX10 tyX10_ok nmX10 (by decide +kernel : am_ly 174 = (10, 0)) (by omega) (by decide) rfl 10 (by decide) rfl rfl rfl wd_1305 (ty := (.array .int)) (by decide +kernel) rfl rfl (by rw [aq_mask_len]; exact Nat.le_of_ble_eq_true rfl) (by rw [(show (aq_up U 174 [10, 12, 13, 14, 18]) 174 = [10, 12, 13, 14, 18] from by simp [aq_up])]; exact aq_mask_set (by decide) rfl) dX10_init_67 ?_
  rw [aq_up_up]
  refine aq_aload_n F 0 dX10_init_70 rfl rfl ?_
  refine aq_iconst F (v := (-1 : Int32)) dX10_init_71 (by decide) ?_
  refine aq_put F (T := TX10) (N := 21) in_X10 tyX10 tyX10_ok nmX10 (by decide +kernel : am_ly 174 = (10, 0)) (by omega) (by decide) rfl 11 (by decide) rfl rfl wd_1306 (ty := .int) (by decide +kernel) rfl rfl (by rw [aq_mask_len]; exact Nat.le_of_ble_eq_true rfl) (by rw [(show (aq_up U 174 [12, 13, 14, 18]) 174 = [12, 13, 14, 18] from by simp [aq_up])]; simp [aq_mask, am_fs, am_g, am_s, List.range, List.range.loop]) dX10_init_72 ?_
  refine aq_aload_n F 0 dX10_init_75 rfl rfl ?_
  refine aq_sipush F (v := (1240 : Int32)) dX10_init_76 (by decide) ?_
  refine aq_newa (n := 182) F (atype := .boolean) (ty := .boolean) 4 (by decide +kernel : am_ly 182 = (24, 1240)) (by decide) rfl ((show (aq_up U 174 [12, 13, 14, 18]) 182 = U 182 from by simp [aq_up]).trans ((aq_fr_s (a := 174) (k := 11) (v := (-1 : Int32)) (n := 182) (aq_fr.mono (aq_fr_s (a := 174) (k := 8) (v := (-1 : Int32)) (n := 182) (aq_fr.mono hf0 (by omega)) (by omega)) (by omega)) (by omega)) 182 (by omega)).1) aq_wa24 rfl (fun _ h => h) (aq_cell24 ((aq_fr_s (a := 174) (k := 11) (v := (-1 : Int32)) (n := 182) (aq_fr.mono (aq_fr_s (a := 174) (k := 8) (v := (-1 : Int32)) (n := 182) (aq_fr.mono hf0 (by omega)) (by omega)) (by omega)) (by omega)) 182 (by omega)).2.1) rfl (by decide) (by decide) (Nat.le_of_ble_eq_true rfl) ⟨Nat.le_of_ble_eq_true rfl, Nat.le_of_ble_eq_true rfl⟩ dX10_init_79 ?_
  refine aq_putR F hmn (rest := [13, 14, 18]) (T := TX10) (N := 21) in_X10 tyX10 tyX10_ok nmX10 (by decide +kernel : am_ly 174 = (10, 0)) (by omega) (by decide) rfl 12 (by decide) rfl rfl rfl wd_1307 (ty := (.array .boolean)) (by decide +kernel) rfl rfl (by rw [aq_mask_len]; exact Nat.le_of_ble_eq_true rfl) (by rw [(show (aq_up U 174 [12, 13, 14, 18]) 174 = [12, 13, 14, 18] from by simp [aq_up])]; exact aq_mask_set (by decide) rfl) dX10_init_81 ?_
  rw [aq_up_up]
  refine aq_aload_n F 0 dX10_init_84 rfl rfl ?_
  refine aq_sipush F (v := (1240 : Int32)) dX10_init_85 (by decide) ?_
  refine aq_newa (n := 183) F (atype := .int) (ty := .int) 0 (by decide +kernel : am_ly 183 = (20, 1240)) (by decide) rfl ((show (aq_up U 174 [13, 14, 18]) 183 = U 183 from by simp [aq_up]).trans ((aq_fr_s (a := 174) (k := 11) (v := (-1 : Int32)) (n := 183) (aq_fr.mono (aq_fr_s (a := 174) (k := 8) (v := (-1 : Int32)) (n := 183) (aq_fr.mono hf0 (by omega)) (by omega)) (by omega)) (by omega)) 183 (by omega)).1) aq_wa20 rfl (fun _ h => h) (aq_cell20 ((aq_fr_s (a := 174) (k := 11) (v := (-1 : Int32)) (n := 183) (aq_fr.mono (aq_fr_s (a := 174) (k := 8) (v := (-1 : Int32)) (n := 183) (aq_fr.mono hf0 (by omega)) (by omega)) (by omega)) (by omega)) 183 (by omega)).2.1) rfl (by decide) (by decide) (Nat.le_of_ble_eq_true rfl) ⟨Nat.le_of_ble_eq_true rfl, Nat.le_of_ble_eq_true rfl⟩ dX10_init_88 ?_
  refine aq_putR F hmn (rest := [14, 18]) (T := TX10) (N := 21) in_X10 tyX10 tyX10_ok nmX10 (by decide +kernel : am_ly 174 = (10, 0)) (by omega) (by decide) rfl 13 (by decide) rfl rfl rfl wd_1308 (ty := (.array .int)) (by decide +kernel) rfl rfl (by rw [aq_mask_len]; exact Nat.le_of_ble_eq_true rfl) (by rw [(show (aq_up U 174 [13, 14, 18]) 174 = [13, 14, 18] from by simp [aq_up])]; exact aq_mask_set (by decide) rfl) dX10_init_90 ?_
  rw [aq_up_up]
  refine aq_aload_n F 0 dX10_init_93 rfl rfl ?_
  refine aq_bipush F (v := (64 : Int32)) dX10_init_94 (by decide) ?_
  refine aq_newa (n := 184) F (atype := .int) (ty := .int) 0 (by decide +kernel : am_ly 184 = (20, 64)) (by decide) rfl ((show (aq_up U 174 [14, 18]) 184 = U 184 from by simp [aq_up]).trans ((aq_fr_s (a := 174) (k := 11) (v := (-1 : Int32)) (n := 184) (aq_fr.mono (aq_fr_s (a := 174) (k := 8) (v := (-1 : Int32)) (n := 184) (aq_fr.mono hf0 (by omega)) (by omega)) (by omega)) (by omega)) 184 (by omega)).1) aq_wa20 rfl (fun _ h => h) (aq_cell20 ((aq_fr_s (a := 174) (k := 11) (v := (-1 : Int32)) (n := 184) (aq_fr.mono (aq_fr_s (a := 174) (k := 8) (v := (-1 : Int32)) (n := 184) (aq_fr.mono hf0 (by omega)) (by omega)) (by omega)) (by omega)) 184 (by omega)).2.1) rfl (by decide) (by decide) (Nat.le_of_ble_eq_true rfl) ⟨Nat.le_of_ble_eq_true rfl, Nat.le_of_ble_eq_true rfl⟩ dX10_init_96 ?_
  refine aq_putR F hmn (rest := [18]) (T := TX10) (N := 21) in_X10 tyX10 tyX10_ok nmX10 (by decide +kernel : am_ly 174 = (10, 0)) (by omega) (by decide) rfl 14 (by decide) rfl rfl rfl wd_1309 (ty := (.array .int)) (by decide +kernel) rfl rfl (by rw [aq_mask_len]; exact Nat.le_of_ble_eq_true rfl) (by rw [(show (aq_up U 174 [14, 18]) 174 = [14, 18] from by simp [aq_up])]; exact aq_mask_set (by decide) rfl) dX10_init_98 ?_
  rw [aq_up_up]
  refine aq_aload_n F 0 dX10_init_101 rfl rfl ?_
  refine aq_bipush F (v := (40 : Int32)) dX10_init_102 (by decide) ?_
  refine aq_newa (n := 185) F (atype := .int) (ty := .int) 0 (by decide +kernel : am_ly 185 = (20, 40)) (by decide) rfl ((show (aq_up U 174 [18]) 185 = U 185 from by simp [aq_up]).trans ((aq_fr_s (a := 174) (k := 11) (v := (-1 : Int32)) (n := 185) (aq_fr.mono (aq_fr_s (a := 174) (k := 8) (v := (-1 : Int32)) (n := 185) (aq_fr.mono hf0 (by omega)) (by omega)) (by omega)) (by omega)) 185 (by omega)).1) aq_wa20 rfl (fun _ h => h) (aq_cell20 ((aq_fr_s (a := 174) (k := 11) (v := (-1 : Int32)) (n := 185) (aq_fr.mono (aq_fr_s (a := 174) (k := 8) (v := (-1 : Int32)) (n := 185) (aq_fr.mono hf0 (by omega)) (by omega)) (by omega)) (by omega)) 185 (by omega)).2.1) rfl (by decide) (by decide) (Nat.le_of_ble_eq_true rfl) ⟨Nat.le_of_ble_eq_true rfl, Nat.le_of_ble_eq_true rfl⟩ dX10_init_104 ?_
  refine aq_putR F hmn (rest := []) (T := TX10) (N := 21) in_X10 tyX10 tyX10_ok nmX10 (by decide +kernel : am_ly 174 = (10, 0)) (by omega) (by decide) rfl 18 (by decide) rfl rfl rfl wd_1313 (ty := (.array .int)) (by decide +kernel) rfl rfl (by rw [aq_mask_len]; exact Nat.le_of_ble_eq_true rfl) (by rw [(show (aq_up U 174 [18]) 174 = [18] from by simp [aq_up])]; exact aq_mask_set (by decide) rfl) dX10_init_106 ?_
  rw [aq_up_up]
  refine aq_iconst F (v := (0 : Int32)) dX10_init_109 (by decide) ?_
  refine aq_istore_n F [(1, .int (0 : Int32)), (0, .ref (z + 174))] dX10_init_110 rfl (by decide) rfl ?_
  refine aq_iload_n F 0 dX10_init_111 rfl rfl ?_
  refine aq_bipush F (v := (24 : Int32)) dX10_init_112 (by decide) ?_
  refine aq_icmp_ge F (tgt := 130) dX10_init_114 (by decide) (fun hc => absurd hc (by decide)) (fun _ => ?_)
  refine aq_aload_n F 1 dX10_init_117 rfl rfl ?_
  refine aq_get F (T := TX10) (N := 21) in_X10 (by decide +kernel : am_ly 174 = (10, 0)) (by omega) (by decide) rfl 5 (by decide) rfl wd_1300 (v := .ref (z + 178)) (by rw [(show (aq_up U 174 []) 174 = [] from by simp [aq_up])]; exact aq_mask_get (by decide) rfl) dX10_init_118 ?_
  refine aq_iload_n F 0 dX10_init_121 rfl rfl ?_
  refine aq_iconst F (v := (-1 : Int32)) dX10_init_122 (by decide) ?_
  refine aq_iast F (by decide +kernel : am_ly 178 = (20, 24)) (by omega) (vp_in_iff.mpr (by decide)) dX10_init_123 ?_
  refine aq_iinc F [(1, .int (1 : Int32)), (0, .ref (z + 174))] 0 dX10_init_124 (by decide) rfl (by decide) rfl ?_
  refine aq_goto F (tgt := 111) dX10_init_127 (by decide) ?_
  refine aq_iload_n F 0 dX10_init_111 rfl rfl ?_
  refine aq_bipush F (v := (24 : Int32)) dX10_init_112 (by decide) ?_
  refine aq_icmp_ge F (tgt := 130) dX10_init_114 (by decide) (fun hc => absurd hc (by decide)) (fun _ => ?_)
  refine aq_aload_n F 1 dX10_init_117 rfl rfl ?_
  refine aq_get F (T := TX10) (N := 21) in_X10 (by decide +kernel : am_ly 174 = (10, 0)) (by omega) (by decide) rfl 5 (by decide) rfl wd_1300 (v := .ref (z + 178)) (by rw [(show (aq_up U 174 []) 174 = [] from by simp [aq_up])]; exact aq_mask_get (by decide) rfl) dX10_init_118 ?_
  refine aq_iload_n F 0 dX10_init_121 rfl rfl ?_
  refine aq_iconst F (v := (-1 : Int32)) dX10_init_122 (by decide) ?_
  refine aq_iast F (by decide +kernel : am_ly 178 = (20, 24)) (by omega) (vp_in_iff.mpr (by decide)) dX10_init_123 ?_
  refine aq_iinc F [(1, .int (2 : Int32)), (0, .ref (z + 174))] 0 dX10_init_124 (by decide) rfl (by decide) rfl ?_
  refine aq_goto F (tgt := 111) dX10_init_127 (by decide) ?_
  refine aq_iload_n F 0 dX10_init_111 rfl rfl ?_
  refine aq_bipush F (v := (24 : Int32)) dX10_init_112 (by decide) ?_
  refine aq_icmp_ge F (tgt := 130) dX10_init_114 (by decide) (fun hc => absurd hc (by decide)) (fun _ => ?_)
  refine aq_aload_n F 1 dX10_init_117 rfl rfl ?_
  refine aq_get F (T := TX10) (N := 21) in_X10 (by decide +kernel : am_ly 174 = (10, 0)) (by omega) (by decide) rfl 5 (by decide) rfl wd_1300 (v := .ref (z + 178)) (by rw [(show (aq_up U 174 []) 174 = [] from by simp [aq_up])]; exact aq_mask_get (by decide) rfl) dX10_init_118 ?_
  refine aq_iload_n F 0 dX10_init_121 rfl rfl ?_
  refine aq_iconst F (v := (-1 : Int32)) dX10_init_122 (by decide) ?_
  refine aq_iast F (by decide +kernel : am_ly 178 = (20, 24)) (by omega) (vp_in_iff.mpr (by decide)) dX10_init_123 ?_
  refine aq_iinc F [(1, .int (3 : Int32)), (0, .ref (z + 174))] 0 dX10_init_124 (by decide) rfl (by decide) rfl ?_
  refine aq_goto F (tgt := 111) dX10_init_127 (by decide) ?_
  refine aq_iload_n F 0 dX10_init_111 rfl rfl ?_
  refine aq_bipush F (v := (24 : Int32)) dX10_init_112 (by decide) ?_
  refine aq_icmp_ge F (tgt := 130) dX10_init_114 (by decide) (fun hc => absurd hc (by decide)) (fun _ => ?_)
  refine aq_aload_n F 1 dX10_init_117 rfl rfl ?_
  refine aq_get F (T := TX10) (N := 21) in_X10 (by decide +kernel : am_ly 174 = (10, 0)) (by omega) (by decide) rfl 5 (by decide) rfl wd_1300 (v := .ref (z + 178)) (by rw [(show (aq_up U 174 []) 174 = [] from by simp [aq_up])]; exact aq_mask_get (by decide) rfl) dX10_init_118 ?_
  refine aq_iload_n F 0 dX10_init_121 rfl rfl ?_
  refine aq_iconst F (v := (-1 : Int32)) dX10_init_122 (by decide) ?_
  refine aq_iast F (by decide +kernel : am_ly 178 = (20, 24)) (by omega) (vp_in_iff.mpr (by decide)) dX10_init_123 ?_
  refine aq_iinc F [(1, .int (4 : Int32)), (0, .ref (z + 174))] 0 dX10_init_124 (by decide) rfl (by decide) rfl ?_
  refine aq_goto F (tgt := 111) dX10_init_127 (by decide) ?_
  refine aq_iload_n F 0 dX10_init_111 rfl rfl ?_
  refine aq_bipush F (v := (24 : Int32)) dX10_init_112 (by decide) ?_
  refine aq_icmp_ge F (tgt := 130) dX10_init_114 (by decide) (fun hc => absurd hc (by decide)) (fun _ => ?_)
  refine aq_aload_n F 1 dX10_init_117 rfl rfl ?_
  refine aq_get F (T := TX10) (N := 21) in_X10 (by decide +kernel : am_ly 174 = (10, 0)) (by omega) (by decide) rfl 5 (by decide) rfl wd_1300 (v := .ref (z + 178)) (by rw [(show (aq_up U 174 []) 174 = [] from by simp [aq_up])]; exact aq_mask_get (by decide) rfl) dX10_init_118 ?_
  refine aq_iload_n F 0 dX10_init_121 rfl rfl ?_
  refine aq_iconst F (v := (-1 : Int32)) dX10_init_122 (by decide) ?_
  refine aq_iast F (by decide +kernel : am_ly 178 = (20, 24)) (by omega) (vp_in_iff.mpr (by decide)) dX10_init_123 ?_
  refine aq_iinc F [(1, .int (5 : Int32)), (0, .ref (z + 174))] 0 dX10_init_124 (by decide) rfl (by decide) rfl ?_
  refine aq_goto F (tgt := 111) dX10_init_127 (by decide) ?_
  refine aq_iload_n F 0 dX10_init_111 rfl rfl ?_
  refine aq_bipush F (v := (24 : Int32)) dX10_init_112 (by decide) ?_
  refine aq_icmp_ge F (tgt := 130) dX10_init_114 (by decide) (fun hc => absurd hc (by decide)) (fun _ => ?_)
  refine aq_aload_n F 1 dX10_init_117 rfl rfl ?_
  refine aq_get F (T := TX10) (N := 21) in_X10 (by decide +kernel : am_ly 174 = (10, 0)) (by omega) (by decide) rfl 5 (by decide) rfl wd_1300 (v := .ref (z + 178)) (by rw [(show (aq_up U 174 []) 174 = [] from by simp [aq_up])]; exact aq_mask_get (by decide) rfl) dX10_init_118 ?_
  refine aq_iload_n F 0 dX10_init_121 rfl rfl ?_
  refine aq_iconst F (v := (-1 : Int32)) dX10_init_122 (by decide) ?_
  refine aq_iast F (by decide +kernel : am_ly 178 = (20, 24)) (by omega) (vp_in_iff.mpr (by decide)) dX10_init_123 ?_
  refine aq_iinc F [(1, .int (6 : Int32)), (0, .ref (z + 174))] 0 dX10_init_124 (by decide) rfl (by decide) rfl ?_
  refine aq_goto F (tgt := 111) dX10_init_127 (by decide) ?_
  refine aq_iload_n F 0 dX10_init_111 rfl rfl ?_
  refine aq_bipush F (v := (24 : Int32)) dX10_init_112 (by decide) ?_
  refine aq_icmp_ge F (tgt := 130) dX10_init_114 (by decide) (fun hc => absurd hc (by decide)) (fun _ => ?_)
  refine aq_aload_n F 1 dX10_init_117 rfl rfl ?_
  refine aq_get F (T := TX10) (N := 21) in_X10 (by decide +kernel : am_ly 174 = (10, 0)) (by omega) (by decide) rfl 5 (by decide) rfl wd_1300 (v := .ref (z + 178)) (by rw [(show (aq_up U 174 []) 174 = [] from by simp [aq_up])]; exact aq_mask_get (by decide) rfl) dX10_init_118 ?_
  refine aq_iload_n F 0 dX10_init_121 rfl rfl ?_
  refine aq_iconst F (v := (-1 : Int32)) dX10_init_122 (by decide) ?_
  refine aq_iast F (by decide +kernel : am_ly 178 = (20, 24)) (by omega) (vp_in_iff.mpr (by decide)) dX10_init_123 ?_
  refine aq_iinc F [(1, .int (7 : Int32)), (0, .ref (z + 174))] 0 dX10_init_124 (by decide) rfl (by decide) rfl ?_
  refine aq_goto F (tgt := 111) dX10_init_127 (by decide) ?_
  refine aq_iload_n F 0 dX10_init_111 rfl rfl ?_
  refine aq_bipush F (v := (24 : Int32)) dX10_init_112 (by decide) ?_
  refine aq_icmp_ge F (tgt := 130) dX10_init_114 (by decide) (fun hc => absurd hc (by decide)) (fun _ => ?_)
  refine aq_aload_n F 1 dX10_init_117 rfl rfl ?_
  refine aq_get F (T := TX10) (N := 21) in_X10 (by decide +kernel : am_ly 174 = (10, 0)) (by omega) (by decide) rfl 5 (by decide) rfl wd_1300 (v := .ref (z + 178)) (by rw [(show (aq_up U 174 []) 174 = [] from by simp [aq_up])]; exact aq_mask_get (by decide) rfl) dX10_init_118 ?_
  refine aq_iload_n F 0 dX10_init_121 rfl rfl ?_
  refine aq_iconst F (v := (-1 : Int32)) dX10_init_122 (by decide) ?_
  refine aq_iast F (by decide +kernel : am_ly 178 = (20, 24)) (by omega) (vp_in_iff.mpr (by decide)) dX10_init_123 ?_
  refine aq_iinc F [(1, .int (8 : Int32)), (0, .ref (z + 174))] 0 dX10_init_124 (by decide) rfl (by decide) rfl ?_
  refine aq_goto F (tgt := 111) dX10_init_127 (by decide) ?_
  refine aq_iload_n F 0 dX10_init_111 rfl rfl ?_
  refine aq_bipush F (v := (24 : Int32)) dX10_init_112 (by decide) ?_
  refine aq_icmp_ge F (tgt := 130) dX10_init_114 (by decide) (fun hc => absurd hc (by decide)) (fun _ => ?_)
  refine aq_aload_n F 1 dX10_init_117 rfl rfl ?_
  refine aq_get F (T := TX10) (N := 21) in_X10 (by decide +kernel : am_ly 174 = (10, 0)) (by omega) (by decide) rfl 5 (by decide) rfl wd_1300 (v := .ref (z + 178)) (by rw [(show (aq_up U 174 []) 174 = [] from by simp [aq_up])]; exact aq_mask_get (by decide) rfl) dX10_init_118 ?_
  refine aq_iload_n F 0 dX10_init_121 rfl rfl ?_
  refine aq_iconst F (v := (-1 : Int32)) dX10_init_122 (by decide) ?_
  refine aq_iast F (by decide +kernel : am_ly 178 = (20, 24)) (by omega) (vp_in_iff.mpr (by decide)) dX10_init_123 ?_
  refine aq_iinc F [(1, .int (9 : Int32)), (0, .ref (z + 174))] 0 dX10_init_124 (by decide) rfl (by decide) rfl ?_
  refine aq_goto F (tgt := 111) dX10_init_127 (by decide) ?_
  refine aq_iload_n F 0 dX10_init_111 rfl rfl ?_
  refine aq_bipush F (v := (24 : Int32)) dX10_init_112 (by decide) ?_
  refine aq_icmp_ge F (tgt := 130) dX10_init_114 (by decide) (fun hc => absurd hc (by decide)) (fun _ => ?_)
  refine aq_aload_n F 1 dX10_init_117 rfl rfl ?_
  refine aq_get F (T := TX10) (N := 21) in_X10 (by decide +kernel : am_ly 174 = (10, 0)) (by omega) (by decide) rfl 5 (by decide) rfl wd_1300 (v := .ref (z + 178)) (by rw [(show (aq_up U 174 []) 174 = [] from by simp [aq_up])]; exact aq_mask_get (by decide) rfl) dX10_init_118 ?_
  refine aq_iload_n F 0 dX10_init_121 rfl rfl ?_
  refine aq_iconst F (v := (-1 : Int32)) dX10_init_122 (by decide) ?_
  refine aq_iast F (by decide +kernel : am_ly 178 = (20, 24)) (by omega) (vp_in_iff.mpr (by decide)) dX10_init_123 ?_
  refine aq_iinc F [(1, .int (10 : Int32)), (0, .ref (z + 174))] 0 dX10_init_124 (by decide) rfl (by decide) rfl ?_
  refine aq_goto F (tgt := 111) dX10_init_127 (by decide) ?_
  refine aq_iload_n F 0 dX10_init_111 rfl rfl ?_
  refine aq_bipush F (v := (24 : Int32)) dX10_init_112 (by decide) ?_
  refine aq_icmp_ge F (tgt := 130) dX10_init_114 (by decide) (fun hc => absurd hc (by decide)) (fun _ => ?_)
  refine aq_aload_n F 1 dX10_init_117 rfl rfl ?_
  refine aq_get F (T := TX10) (N := 21) in_X10 (by decide +kernel : am_ly 174 = (10, 0)) (by omega) (by decide) rfl 5 (by decide) rfl wd_1300 (v := .ref (z + 178)) (by rw [(show (aq_up U 174 []) 174 = [] from by simp [aq_up])]; exact aq_mask_get (by decide) rfl) dX10_init_118 ?_
  refine aq_iload_n F 0 dX10_init_121 rfl rfl ?_
  refine aq_iconst F (v := (-1 : Int32)) dX10_init_122 (by decide) ?_
  refine aq_iast F (by decide +kernel : am_ly 178 = (20, 24)) (by omega) (vp_in_iff.mpr (by decide)) dX10_init_123 ?_
  refine aq_iinc F [(1, .int (11 : Int32)), (0, .ref (z + 174))] 0 dX10_init_124 (by decide) rfl (by decide) rfl ?_
  refine aq_goto F (tgt := 111) dX10_init_127 (by decide) ?_
  refine aq_iload_n F 0 dX10_init_111 rfl rfl ?_
  refine aq_bipush F (v := (24 : Int32)) dX10_init_112 (by decide) ?_
  refine aq_icmp_ge F (tgt := 130) dX10_init_114 (by decide) (fun hc => absurd hc (by decide)) (fun _ => ?_)
  refine aq_aload_n F 1 dX10_init_117 rfl rfl ?_
  refine aq_get F (T := TX10) (N := 21) in_X10 (by decide +kernel : am_ly 174 = (10, 0)) (by omega) (by decide) rfl 5 (by decide) rfl wd_1300 (v := .ref (z + 178)) (by rw [(show (aq_up U 174 []) 174 = [] from by simp [aq_up])]; exact aq_mask_get (by decide) rfl) dX10_init_118 ?_
  refine aq_iload_n F 0 dX10_init_121 rfl rfl ?_
  refine aq_iconst F (v := (-1 : Int32)) dX10_init_122 (by decide) ?_
  refine aq_iast F (by decide +kernel : am_ly 178 = (20, 24)) (by omega) (vp_in_iff.mpr (by decide)) dX10_init_123 ?_
  refine aq_iinc F [(1, .int (12 : Int32)), (0, .ref (z + 174))] 0 dX10_init_124 (by decide) rfl (by decide) rfl ?_
  refine aq_goto F (tgt := 111) dX10_init_127 (by decide) ?_
  refine aq_iload_n F 0 dX10_init_111 rfl rfl ?_
  refine aq_bipush F (v := (24 : Int32)) dX10_init_112 (by decide) ?_
  refine aq_icmp_ge F (tgt := 130) dX10_init_114 (by decide) (fun hc => absurd hc (by decide)) (fun _ => ?_)
  refine aq_aload_n F 1 dX10_init_117 rfl rfl ?_
  refine aq_get F (T := TX10) (N := 21) in_X10 (by decide +kernel : am_ly 174 = (10, 0)) (by omega) (by decide) rfl 5 (by decide) rfl wd_1300 (v := .ref (z + 178)) (by rw [(show (aq_up U 174 []) 174 = [] from by simp [aq_up])]; exact aq_mask_get (by decide) rfl) dX10_init_118 ?_
  refine aq_iload_n F 0 dX10_init_121 rfl rfl ?_
  refine aq_iconst F (v := (-1 : Int32)) dX10_init_122 (by decide) ?_
  refine aq_iast F (by decide +kernel : am_ly 178 = (20, 24)) (by omega) (vp_in_iff.mpr (by decide)) dX10_init_123 ?_
  refine aq_iinc F [(1, .int (13 : Int32)), (0, .ref (z + 174))] 0 dX10_init_124 (by decide) rfl (by decide) rfl ?_
  refine aq_goto F (tgt := 111) dX10_init_127 (by decide) ?_
  refine aq_iload_n F 0 dX10_init_111 rfl rfl ?_
  refine aq_bipush F (v := (24 : Int32)) dX10_init_112 (by decide) ?_
  refine aq_icmp_ge F (tgt := 130) dX10_init_114 (by decide) (fun hc => absurd hc (by decide)) (fun _ => ?_)
  refine aq_aload_n F 1 dX10_init_117 rfl rfl ?_
  refine aq_get F (T := TX10) (N := 21) in_X10 (by decide +kernel : am_ly 174 = (10, 0)) (by omega) (by decide) rfl 5 (by decide) rfl wd_1300 (v := .ref (z + 178)) (by rw [(show (aq_up U 174 []) 174 = [] from by simp [aq_up])]; exact aq_mask_get (by decide) rfl) dX10_init_118 ?_
  refine aq_iload_n F 0 dX10_init_121 rfl rfl ?_
  refine aq_iconst F (v := (-1 : Int32)) dX10_init_122 (by decide) ?_
  refine aq_iast F (by decide +kernel : am_ly 178 = (20, 24)) (by omega) (vp_in_iff.mpr (by decide)) dX10_init_123 ?_
  refine aq_iinc F [(1, .int (14 : Int32)), (0, .ref (z + 174))] 0 dX10_init_124 (by decide) rfl (by decide) rfl ?_
  refine aq_goto F (tgt := 111) dX10_init_127 (by decide) ?_
  refine aq_iload_n F 0 dX10_init_111 rfl rfl ?_
  refine aq_bipush F (v := (24 : Int32)) dX10_init_112 (by decide) ?_
  refine aq_icmp_ge F (tgt := 130) dX10_init_114 (by decide) (fun hc => absurd hc (by decide)) (fun _ => ?_)
  refine aq_aload_n F 1 dX10_init_117 rfl rfl ?_
  refine aq_get F (T := TX10) (N := 21) in_X10 (by decide +kernel : am_ly 174 = (10, 0)) (by omega) (by decide) rfl 5 (by decide) rfl wd_1300 (v := .ref (z + 178)) (by rw [(show (aq_up U 174 []) 174 = [] from by simp [aq_up])]; exact aq_mask_get (by decide) rfl) dX10_init_118 ?_
  refine aq_iload_n F 0 dX10_init_121 rfl rfl ?_
  refine aq_iconst F (v := (-1 : Int32)) dX10_init_122 (by decide) ?_
  refine aq_iast F (by decide +kernel : am_ly 178 = (20, 24)) (by omega) (vp_in_iff.mpr (by decide)) dX10_init_123 ?_
  refine aq_iinc F [(1, .int (15 : Int32)), (0, .ref (z + 174))] 0 dX10_init_124 (by decide) rfl (by decide) rfl ?_
  refine aq_goto F (tgt := 111) dX10_init_127 (by decide) ?_
  refine aq_iload_n F 0 dX10_init_111 rfl rfl ?_
  refine aq_bipush F (v := (24 : Int32)) dX10_init_112 (by decide) ?_
  refine aq_icmp_ge F (tgt := 130) dX10_init_114 (by decide) (fun hc => absurd hc (by decide)) (fun _ => ?_)
  refine aq_aload_n F 1 dX10_init_117 rfl rfl ?_
  refine aq_get F (T := TX10) (N := 21) in_X10 (by decide +kernel : am_ly 174 = (10, 0)) (by omega) (by decide) rfl 5 (by decide) rfl wd_1300 (v := .ref (z + 178)) (by rw [(show (aq_up U 174 []) 174 = [] from by simp [aq_up])]; exact aq_mask_get (by decide) rfl) dX10_init_118 ?_
  refine aq_iload_n F 0 dX10_init_121 rfl rfl ?_
  refine aq_iconst F (v := (-1 : Int32)) dX10_init_122 (by decide) ?_
  refine aq_iast F (by decide +kernel : am_ly 178 = (20, 24)) (by omega) (vp_in_iff.mpr (by decide)) dX10_init_123 ?_
  refine aq_iinc F [(1, .int (16 : Int32)), (0, .ref (z + 174))] 0 dX10_init_124 (by decide) rfl (by decide) rfl ?_
  refine aq_goto F (tgt := 111) dX10_init_127 (by decide) ?_
  refine aq_iload_n F 0 dX10_init_111 rfl rfl ?_
  refine aq_bipush F (v := (24 : Int32)) dX10_init_112 (by decide) ?_
  refine aq_icmp_ge F (tgt := 130) dX10_init_114 (by decide) (fun hc => absurd hc (by decide)) (fun _ => ?_)
  refine aq_aload_n F 1 dX10_init_117 rfl rfl ?_
  refine aq_get F (T := TX10) (N := 21) in_X10 (by decide +kernel : am_ly 174 = (10, 0)) (by omega) (by decide) rfl 5 (by decide) rfl wd_1300 (v := .ref (z + 178)) (by rw [(show (aq_up U 174 []) 174 = [] from by simp [aq_up])]; exact aq_mask_get (by decide) rfl) dX10_init_118 ?_
  refine aq_iload_n F 0 dX10_init_121 rfl rfl ?_
  refine aq_iconst F (v := (-1 : Int32)) dX10_init_122 (by decide) ?_
  refine aq_iast F (by decide +kernel : am_ly 178 = (20, 24)) (by omega) (vp_in_iff.mpr (by decide)) dX10_init_123 ?_
  refine aq_iinc F [(1, .int (17 : Int32)), (0, .ref (z + 174))] 0 dX10_init_124 (by decide) rfl (by decide) rfl ?_
  refine aq_goto F (tgt := 111) dX10_init_127 (by decide) ?_
  refine aq_iload_n F 0 dX10_init_111 rfl rfl ?_
  refine aq_bipush F (v := (24 : Int32)) dX10_init_112 (by decide) ?_
  refine aq_icmp_ge F (tgt := 130) dX10_init_114 (by decide) (fun hc => absurd hc (by decide)) (fun _ => ?_)
  refine aq_aload_n F 1 dX10_init_117 rfl rfl ?_
  refine aq_get F (T := TX10) (N := 21) in_X10 (by decide +kernel : am_ly 174 = (10, 0)) (by omega) (by decide) rfl 5 (by decide) rfl wd_1300 (v := .ref (z + 178)) (by rw [(show (aq_up U 174 []) 174 = [] from by simp [aq_up])]; exact aq_mask_get (by decide) rfl) dX10_init_118 ?_
  refine aq_iload_n F 0 dX10_init_121 rfl rfl ?_
  refine aq_iconst F (v := (-1 : Int32)) dX10_init_122 (by decide) ?_
  refine aq_iast F (by decide +kernel : am_ly 178 = (20, 24)) (by omega) (vp_in_iff.mpr (by decide)) dX10_init_123 ?_
  refine aq_iinc F [(1, .int (18 : Int32)), (0, .ref (z + 174))] 0 dX10_init_124 (by decide) rfl (by decide) rfl ?_
  refine aq_goto F (tgt := 111) dX10_init_127 (by decide) ?_
  refine aq_iload_n F 0 dX10_init_111 rfl rfl ?_
  refine aq_bipush F (v := (24 : Int32)) dX10_init_112 (by decide) ?_
  refine aq_icmp_ge F (tgt := 130) dX10_init_114 (by decide) (fun hc => absurd hc (by decide)) (fun _ => ?_)
  refine aq_aload_n F 1 dX10_init_117 rfl rfl ?_
  refine aq_get F (T := TX10) (N := 21) in_X10 (by decide +kernel : am_ly 174 = (10, 0)) (by omega) (by decide) rfl 5 (by decide) rfl wd_1300 (v := .ref (z + 178)) (by rw [(show (aq_up U 174 []) 174 = [] from by simp [aq_up])]; exact aq_mask_get (by decide) rfl) dX10_init_118 ?_
  refine aq_iload_n F 0 dX10_init_121 rfl rfl ?_
  refine aq_iconst F (v := (-1 : Int32)) dX10_init_122 (by decide) ?_
  refine aq_iast F (by decide +kernel : am_ly 178 = (20, 24)) (by omega) (vp_in_iff.mpr (by decide)) dX10_init_123 ?_
  refine aq_iinc F [(1, .int (19 : Int32)), (0, .ref (z + 174))] 0 dX10_init_124 (by decide) rfl (by decide) rfl ?_
  refine aq_goto F (tgt := 111) dX10_init_127 (by decide) ?_
  refine aq_iload_n F 0 dX10_init_111 rfl rfl ?_
  refine aq_bipush F (v := (24 : Int32)) dX10_init_112 (by decide) ?_
  refine aq_icmp_ge F (tgt := 130) dX10_init_114 (by decide) (fun hc => absurd hc (by decide)) (fun _ => ?_)
  refine aq_aload_n F 1 dX10_init_117 rfl rfl ?_
  refine aq_get F (T := TX10) (N := 21) in_X10 (by decide +kernel : am_ly 174 = (10, 0)) (by omega) (by decide) rfl 5 (by decide) rfl wd_1300 (v := .ref (z + 178)) (by rw [(show (aq_up U 174 []) 174 = [] from by simp [aq_up])]; exact aq_mask_get (by decide) rfl) dX10_init_118 ?_
  refine aq_iload_n F 0 dX10_init_121 rfl rfl ?_
  refine aq_iconst F (v := (-1 : Int32)) dX10_init_122 (by decide) ?_
  refine aq_iast F (by decide +kernel : am_ly 178 = (20, 24)) (by omega) (vp_in_iff.mpr (by decide)) dX10_init_123 ?_
  refine aq_iinc F [(1, .int (20 : Int32)), (0, .ref (z + 174))] 0 dX10_init_124 (by decide) rfl (by decide) rfl ?_
  refine aq_goto F (tgt := 111) dX10_init_127 (by decide) ?_
  refine aq_iload_n F 0 dX10_init_111 rfl rfl ?_
  refine aq_bipush F (v := (24 : Int32)) dX10_init_112 (by decide) ?_
  refine aq_icmp_ge F (tgt := 130) dX10_init_114 (by decide) (fun hc => absurd hc (by decide)) (fun _ => ?_)
  refine aq_aload_n F 1 dX10_init_117 rfl rfl ?_
  refine aq_get F (T := TX10) (N := 21) in_X10 (by decide +kernel : am_ly 174 = (10, 0)) (by omega) (by decide) rfl 5 (by decide) rfl wd_1300 (v := .ref (z + 178)) (by rw [(show (aq_up U 174 []) 174 = [] from by simp [aq_up])]; exact aq_mask_get (by decide) rfl) dX10_init_118 ?_
  refine aq_iload_n F 0 dX10_init_121 rfl rfl ?_
  refine aq_iconst F (v := (-1 : Int32)) dX10_init_122 (by decide) ?_
  refine aq_iast F (by decide +kernel : am_ly 178 = (20, 24)) (by omega) (vp_in_iff.mpr (by decide)) dX10_init_123 ?_
  refine aq_iinc F [(1, .int (21 : Int32)), (0, .ref (z + 174))] 0 dX10_init_124 (by decide) rfl (by decide) rfl ?_
  refine aq_goto F (tgt := 111) dX10_init_127 (by decide) ?_
  refine aq_iload_n F 0 dX10_init_111 rfl rfl ?_
  refine aq_bipush F (v := (24 : Int32)) dX10_init_112 (by decide) ?_
  refine aq_icmp_ge F (tgt := 130) dX10_init_114 (by decide) (fun hc => absurd hc (by decide)) (fun _ => ?_)
  refine aq_aload_n F 1 dX10_init_117 rfl rfl ?_
  refine aq_get F (T := TX10) (N := 21) in_X10 (by decide +kernel : am_ly 174 = (10, 0)) (by omega) (by decide) rfl 5 (by decide) rfl wd_1300 (v := .ref (z + 178)) (by rw [(show (aq_up U 174 []) 174 = [] from by simp [aq_up])]; exact aq_mask_get (by decide) rfl) dX10_init_118 ?_
  refine aq_iload_n F 0 dX10_init_121 rfl rfl ?_
  refine aq_iconst F (v := (-1 : Int32)) dX10_init_122 (by decide) ?_
  refine aq_iast F (by decide +kernel : am_ly 178 = (20, 24)) (by omega) (vp_in_iff.mpr (by decide)) dX10_init_123 ?_
  refine aq_iinc F [(1, .int (22 : Int32)), (0, .ref (z + 174))] 0 dX10_init_124 (by decide) rfl (by decide) rfl ?_
  refine aq_goto F (tgt := 111) dX10_init_127 (by decide) ?_
  refine aq_iload_n F 0 dX10_init_111 rfl rfl ?_
  refine aq_bipush F (v := (24 : Int32)) dX10_init_112 (by decide) ?_
  refine aq_icmp_ge F (tgt := 130) dX10_init_114 (by decide) (fun hc => absurd hc (by decide)) (fun _ => ?_)
  refine aq_aload_n F 1 dX10_init_117 rfl rfl ?_
  refine aq_get F (T := TX10) (N := 21) in_X10 (by decide +kernel : am_ly 174 = (10, 0)) (by omega) (by decide) rfl 5 (by decide) rfl wd_1300 (v := .ref (z + 178)) (by rw [(show (aq_up U 174 []) 174 = [] from by simp [aq_up])]; exact aq_mask_get (by decide) rfl) dX10_init_118 ?_
  refine aq_iload_n F 0 dX10_init_121 rfl rfl ?_
  refine aq_iconst F (v := (-1 : Int32)) dX10_init_122 (by decide) ?_
  refine aq_iast F (by decide +kernel : am_ly 178 = (20, 24)) (by omega) (vp_in_iff.mpr (by decide)) dX10_init_123 ?_
  refine aq_iinc F [(1, .int (23 : Int32)), (0, .ref (z + 174))] 0 dX10_init_124 (by decide) rfl (by decide) rfl ?_
  refine aq_goto F (tgt := 111) dX10_init_127 (by decide) ?_
  refine aq_iload_n F 0 dX10_init_111 rfl rfl ?_
  refine aq_bipush F (v := (24 : Int32)) dX10_init_112 (by decide) ?_
  refine aq_icmp_ge F (tgt := 130) dX10_init_114 (by decide) (fun hc => absurd hc (by decide)) (fun _ => ?_)
  refine aq_aload_n F 1 dX10_init_117 rfl rfl ?_
  refine aq_get F (T := TX10) (N := 21) in_X10 (by decide +kernel : am_ly 174 = (10, 0)) (by omega) (by decide) rfl 5 (by decide) rfl wd_1300 (v := .ref (z + 178)) (by rw [(show (aq_up U 174 []) 174 = [] from by simp [aq_up])]; exact aq_mask_get (by decide) rfl) dX10_init_118 ?_
  refine aq_iload_n F 0 dX10_init_121 rfl rfl ?_
  refine aq_iconst F (v := (-1 : Int32)) dX10_init_122 (by decide) ?_
  refine aq_iast F (by decide +kernel : am_ly 178 = (20, 24)) (by omega) (vp_in_iff.mpr (by decide)) dX10_init_123 ?_
  refine aq_iinc F [(1, .int (24 : Int32)), (0, .ref (z + 174))] 0 dX10_init_124 (by decide) rfl (by decide) rfl ?_
  refine aq_goto F (tgt := 111) dX10_init_127 (by decide) ?_
  refine aq_iload_n F 0 dX10_init_111 rfl rfl ?_
  refine aq_bipush F (v := (24 : Int32)) dX10_init_112 (by decide) ?_
  refine aq_icmp_ge F (tgt := 130) dX10_init_114 (by decide) (fun _ => ?_) (fun hc => absurd (by decide) hc)
  exact aq_vret F hr ⟨Nat.le_of_ble_eq_true rfl, Nat.le_of_ble_eq_true rfl⟩ rfl (by rw [aq_up_id (U := U) (r := 174) (v := []) ((hf0 174 (by omega)).1)]) rfl dX10_init_130
