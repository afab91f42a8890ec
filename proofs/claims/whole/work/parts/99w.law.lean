/-! the law's cases -/
section SS
theorem ex_ite {c : Prop} [Decidable c] {A B : Option (Unit × am_M)} (hA : ∃ M9, A = some ((), M9)) (hB : ∃ M9, B = some ((), M9)) : ∃ M9, (if c then A else B) = some ((), M9) := by
  by_cases h : c
  · rw [if_pos h]; exact hA
  · rw [if_neg h]; exact hB
theorem law_cs {rc0 : Option (Int32 × am_M)} {rm : am_M → Option (Int32 × am_M)} {R : am_M → Option (Unit × am_M)} (h : CS rc0 rm) (hR : ∀ Q, INV Q → ∃ M9, R Q = some ((), M9)) : ∃ M9, am_b rc0 (fun v4 M3 => am_b (rm M3) (fun v8 M7 => am_b (g_X10_thrown M7) (fun v11 M10 => if v11 = v4 then (if v4 = (0 : Int32) then (am_ci (0 : Int32) 1 (if (lg_cmp (am_lg M10 186 (0 : Int32).toNatClampNeg) (v8.toInt64)) = (0 : Int32) then R M10 else none)) else R M10) else none))) = some ((), M9) := by
  obtain ⟨k, v, P, Q, h1, h2, h3, h4, h5⟩ := h
  rw [h1, am_b_some, h2, am_b_some]
  unfold g_X10_thrown
  rw [am_b_some, if_pos h3]
  by_cases c : k = 0
  · rw [if_pos c, show ∀ x : Option (Unit × am_M), am_ci (0 : Int32) 1 x = x from fun _ => rfl, show am_lg Q 186 (0 : Int32).toNatClampNeg = v.toInt64 from h4 c, lg_cmp_self, if_pos rfl]
    exact hR Q h5
  · rw [if_neg c]
    exact hR Q h5
theorem law_c0 {rc0 : Option (Int32 × am_M)} {rm : am_M → Option (Int32 × am_M)} {R : am_M → Option (Unit × am_M)} (h : ∃ (v : Int32) (P Q : am_M), rc0 = some (v, P) ∧ rm P = some (v, Q) ∧ INV Q) (hR : ∀ Q, INV Q → ∃ M9, R Q = some ((), M9)) : ∃ M9, am_b rc0 (fun v3 M2 => am_b (rm M2) (fun v6 M5 => if v3 = v6 then R M5 else none)) = some ((), M9) := by
  obtain ⟨v, P, Q, h1, h2, h3⟩ := h
  rw [h1, am_b_some, h2, am_b_some, if_pos rfl]
  exact hR Q h3
def LC (L : Nat) (a5 : Int32) : Prop := (∀ k : Option (Unit × am_M), am_ci (a5 + (1 : Int32)) L k = k) ∧ (∀ k : Option (Unit × am_M), am_ci (a5 + (2 : Int32)) L k = k) ∧ (∀ k : Option (Unit × am_M), am_ci (a5 + (3 : Int32)) L k = k) ∧ ∀ k : Option (Unit × am_M), am_ci (a5 + (4 : Int32)) L k = k
theorem law_J216 {xs : Nat → Int32} {L : Nat} {rc : Int32 → am_M → Option (Unit × am_M)} {a5 : Int32} {M : am_M} (hI : INV M) (hc : LC L a5) (hR : ∀ Q, INV Q → ∃ M9, rc (a5 + (5 : Int32)) Q = some ((), M9)) : ∃ M9, g_L_law_J216 xs L rc a5 M = some ((), M9) := by
  unfold g_L_law_J216
  exact law_c0 (R := fun Q => rc (a5 + (5 : Int32)) Q) (cs_clear hI) hR
theorem law_J229 {xs : Nat → Int32} {L : Nat} {rc : Int32 → am_M → Option (Unit × am_M)} {a5 : Int32} {M : am_M} (hI : INV M) (hc : LC L a5) (hR : ∀ Q, INV Q → ∃ M9, rc (a5 + (5 : Int32)) Q = some ((), M9)) : ∃ M9, g_L_law_J229 xs L rc a5 M = some ((), M9) := by
  unfold g_L_law_J229
  simp only [hc.1, hc.2.1]
  exact law_cs (R := fun Q => rc (a5 + (5 : Int32)) Q) (cs_setCell hI _ _) hR
theorem law_J297 {xs : Nat → Int32} {L : Nat} {rc : Int32 → am_M → Option (Unit × am_M)} {a5 : Int32} {M : am_M} (hI : INV M) (hc : LC L a5) (hR : ∀ Q, INV Q → ∃ M9, rc (a5 + (5 : Int32)) Q = some ((), M9)) : ∃ M9, g_L_law_J297 xs L rc a5 M = some ((), M9) := by
  unfold g_L_law_J297
  simp only [hc.1]
  exact law_cs (R := fun Q => rc (a5 + (5 : Int32)) Q) (cs_cell hI _) hR
theorem law_J353 {xs : Nat → Int32} {L : Nat} {rc : Int32 → am_M → Option (Unit × am_M)} {a5 : Int32} {M : am_M} (hI : INV M) (hc : LC L a5) (hR : ∀ Q, INV Q → ∃ M9, rc (a5 + (5 : Int32)) Q = some ((), M9)) : ∃ M9, g_L_law_J353 xs L rc a5 M = some ((), M9) := by
  unfold g_L_law_J353
  simp only [hc.1, hc.2.1]
  exact law_cs (R := fun Q => rc (a5 + (5 : Int32)) Q) (cs_addLift hI _ _) hR
theorem law_J421 {xs : Nat → Int32} {L : Nat} {rc : Int32 → am_M → Option (Unit × am_M)} {a5 : Int32} {M : am_M} (hI : INV M) (hc : LC L a5) (hR : ∀ Q, INV Q → ∃ M9, rc (a5 + (5 : Int32)) Q = some ((), M9)) : ∃ M9, g_L_law_J421 xs L rc a5 M = some ((), M9) := by
  unfold g_L_law_J421
  simp only [hc.1, hc.2.1]
  exact law_cs (R := fun Q => rc (a5 + (5 : Int32)) Q) (cs_addRobot hI _ _) hR
theorem law_J489 {xs : Nat → Int32} {L : Nat} {rc : Int32 → am_M → Option (Unit × am_M)} {a5 : Int32} {M : am_M} (hI : INV M) (hc : LC L a5) (hR : ∀ Q, INV Q → ∃ M9, rc (a5 + (5 : Int32)) Q = some ((), M9)) : ∃ M9, g_L_law_J489 xs L rc a5 M = some ((), M9) := by
  unfold g_L_law_J489
  simp only [hc.1, hc.2.1]
  exact law_cs (R := fun Q => rc (a5 + (5 : Int32)) Q) (cs_robot hI _ _) hR
theorem law_J557 {xs : Nat → Int32} {L : Nat} {rc : Int32 → am_M → Option (Unit × am_M)} {a5 : Int32} {M : am_M} (hI : INV M) (hc : LC L a5) (hR : ∀ Q, INV Q → ∃ M9, rc (a5 + (5 : Int32)) Q = some ((), M9)) : ∃ M9, g_L_law_J557 xs L rc a5 M = some ((), M9) := by
  unfold g_L_law_J557
  simp only [hc.1]
  exact law_cs (R := fun Q => rc (a5 + (5 : Int32)) Q) (cs_count hI _) hR
theorem law_J613 {xs : Nat → Int32} {L : Nat} {rc : Int32 → am_M → Option (Unit × am_M)} {a5 : Int32} {M : am_M} (hI : INV M) (hc : LC L a5) (hR : ∀ Q, INV Q → ∃ M9, rc (a5 + (5 : Int32)) Q = some ((), M9)) : ∃ M9, g_L_law_J613 xs L rc a5 M = some ((), M9) := by
  unfold g_L_law_J613
  simp only [hc.1]
  exact law_cs (R := fun Q => rc (a5 + (5 : Int32)) Q) (cs_region hI _) hR
theorem law_J669 {xs : Nat → Int32} {L : Nat} {rc : Int32 → am_M → Option (Unit × am_M)} {a5 : Int32} {M : am_M} (hI : INV M) (hc : LC L a5) (hR : ∀ Q, INV Q → ∃ M9, rc (a5 + (5 : Int32)) Q = some ((), M9)) : ∃ M9, g_L_law_J669 xs L rc a5 M = some ((), M9) := by
  unfold g_L_law_J669
  simp only [hc.1, hc.2.1]
  exact law_cs (R := fun Q => rc (a5 + (5 : Int32)) Q) (cs_ticksBetween hI _ _) hR
theorem law_J737 {xs : Nat → Int32} {L : Nat} {rc : Int32 → am_M → Option (Unit × am_M)} {a5 : Int32} {M : am_M} (hI : INV M) (hc : LC L a5) (hR : ∀ Q, INV Q → ∃ M9, rc (a5 + (5 : Int32)) Q = some ((), M9)) : ∃ M9, g_L_law_J737 xs L rc a5 M = some ((), M9) := by
  unfold g_L_law_J737
  simp only [hc.1, hc.2.1]
  exact law_cs (R := fun Q => rc (a5 + (5 : Int32)) Q) (cs_plan hI _ _) hR
theorem law_J805 {xs : Nat → Int32} {L : Nat} {rc : Int32 → am_M → Option (Unit × am_M)} {a5 : Int32} {M : am_M} (hI : INV M) (hc : LC L a5) (hR : ∀ Q, INV Q → ∃ M9, rc (a5 + (5 : Int32)) Q = some ((), M9)) : ∃ M9, g_L_law_J805 xs L rc a5 M = some ((), M9) := by
  unfold g_L_law_J805
  simp only [hc.1, hc.2.1]
  exact law_cs (R := fun Q => rc (a5 + (5 : Int32)) Q) (cs_arrival hI _ _) hR
theorem law_J873 {xs : Nat → Int32} {L : Nat} {rc : Int32 → am_M → Option (Unit × am_M)} {a5 : Int32} {M : am_M} (hI : INV M) (hc : LC L a5) (hR : ∀ Q, INV Q → ∃ M9, rc (a5 + (5 : Int32)) Q = some ((), M9)) : ∃ M9, g_L_law_J873 xs L rc a5 M = some ((), M9) := by
  unfold g_L_law_J873
  simp only [hc.1, hc.2.1]
  exact law_cs (R := fun Q => rc (a5 + (5 : Int32)) Q) (cs_routeCost hI _ _) hR
theorem law_J941 {xs : Nat → Int32} {L : Nat} {rc : Int32 → am_M → Option (Unit × am_M)} {a5 : Int32} {M : am_M} (hI : INV M) (hc : LC L a5) (hR : ∀ Q, INV Q → ∃ M9, rc (a5 + (5 : Int32)) Q = some ((), M9)) : ∃ M9, g_L_law_J941 xs L rc a5 M = some ((), M9) := by
  unfold g_L_law_J941
  simp only [hc.1, hc.2.1]
  exact law_cs (R := fun Q => rc (a5 + (5 : Int32)) Q) (cs_action hI _ _) hR
theorem law_J1009 {xs : Nat → Int32} {L : Nat} {rc : Int32 → am_M → Option (Unit × am_M)} {a5 : Int32} {M : am_M} (hI : INV M) (hc : LC L a5) (hR : ∀ Q, INV Q → ∃ M9, rc (a5 + (5 : Int32)) Q = some ((), M9)) : ∃ M9, g_L_law_J1009 xs L rc a5 M = some ((), M9) := by
  unfold g_L_law_J1009
  simp only [hc.1, hc.2.1]
  exact law_cs (R := fun Q => rc (a5 + (5 : Int32)) Q) (cs_cellAfter hI _ _) hR
theorem law_J1077 {xs : Nat → Int32} {L : Nat} {rc : Int32 → am_M → Option (Unit × am_M)} {a5 : Int32} {M : am_M} (hI : INV M) (hc : LC L a5) (hR : ∀ Q, INV Q → ∃ M9, rc (a5 + (5 : Int32)) Q = some ((), M9)) : ∃ M9, g_L_law_J1077 xs L rc a5 M = some ((), M9) := by
  unfold g_L_law_J1077
  simp only [hc.1, hc.2.1]
  exact law_cs (R := fun Q => rc (a5 + (5 : Int32)) Q) (cs_robotAt hI _ _) hR
theorem law_J1145 {xs : Nat → Int32} {L : Nat} {rc : Int32 → am_M → Option (Unit × am_M)} {a5 : Int32} {M : am_M} (hI : INV M) (hc : LC L a5) (hR : ∀ Q, INV Q → ∃ M9, rc (a5 + (5 : Int32)) Q = some ((), M9)) : ∃ M9, g_L_law_J1145 xs L rc a5 M = some ((), M9) := by
  unfold g_L_law_J1145
  simp only [hc.1]
  exact law_cs (R := fun Q => rc (a5 + (5 : Int32)) Q) (cs_cancel hI _) hR
theorem law_J1201 {xs : Nat → Int32} {L : Nat} {rc : Int32 → am_M → Option (Unit × am_M)} {a5 : Int32} {M : am_M} (hI : INV M) (hc : LC L a5) (hR : ∀ Q, INV Q → ∃ M9, rc (a5 + (5 : Int32)) Q = some ((), M9)) : ∃ M9, g_L_law_J1201 xs L rc a5 M = some ((), M9) := by
  unfold g_L_law_J1201
  simp only [hc.1, hc.2.1]
  exact law_cs (R := fun Q => rc (a5 + (5 : Int32)) Q) (cs_blockers hI _ _) hR
theorem law_J1269 {xs : Nat → Int32} {L : Nat} {rc : Int32 → am_M → Option (Unit × am_M)} {a5 : Int32} {M : am_M} (hI : INV M) (hc : LC L a5) (hR : ∀ Q, INV Q → ∃ M9, rc (a5 + (5 : Int32)) Q = some ((), M9)) : ∃ M9, g_L_law_J1269 xs L rc a5 M = some ((), M9) := by
  unfold g_L_law_J1269
  simp only [hc.1, hc.2.1]
  exact law_cs (R := fun Q => rc (a5 + (5 : Int32)) Q) (cs_makeWay hI _ _) hR
theorem law_J1337 {xs : Nat → Int32} {L : Nat} {rc : Int32 → am_M → Option (Unit × am_M)} {a5 : Int32} {M : am_M} (hI : INV M) (hc : LC L a5) (hR : ∀ Q, INV Q → ∃ M9, rc (a5 + (5 : Int32)) Q = some ((), M9)) : ∃ M9, g_L_law_J1337 xs L rc a5 M = some ((), M9) := by
  unfold g_L_law_J1337
  simp only [hc.1]
  exact law_cs (R := fun Q => rc (a5 + (5 : Int32)) Q) (cs_planToCharger hI _) hR
theorem law_J1393 {xs : Nat → Int32} {L : Nat} {rc : Int32 → am_M → Option (Unit × am_M)} {a5 : Int32} {M : am_M} (hI : INV M) (hc : LC L a5) (hR : ∀ Q, INV Q → ∃ M9, rc (a5 + (5 : Int32)) Q = some ((), M9)) : ∃ M9, g_L_law_J1393 xs L rc a5 M = some ((), M9) := by
  unfold g_L_law_J1393
  simp only [hc.1, hc.2.1, hc.2.2.1, hc.2.2.2]
  exact law_cs (R := fun Q => rc (a5 + (5 : Int32)) Q) (cs_addTask hI _ _ _ _) hR
theorem law_J1485 {xs : Nat → Int32} {L : Nat} {rc : Int32 → am_M → Option (Unit × am_M)} {a5 : Int32} {M : am_M} (hI : INV M) (hc : LC L a5) (hR : ∀ Q, INV Q → ∃ M9, rc (a5 + (5 : Int32)) Q = some ((), M9)) : ∃ M9, g_L_law_J1485 xs L rc a5 M = some ((), M9) := by
  unfold g_L_law_J1485
  simp only [hc.1, hc.2.1]
  exact law_cs (R := fun Q => rc (a5 + (5 : Int32)) Q) (cs_serve hI _ _) hR
theorem law_J1553 {xs : Nat → Int32} {L : Nat} {rc : Int32 → am_M → Option (Unit × am_M)} {a5 : Int32} {M : am_M} (hI : INV M) (hc : LC L a5) (hR : ∀ Q, INV Q → ∃ M9, rc (a5 + (5 : Int32)) Q = some ((), M9)) : ∃ M9, g_L_law_J1553 xs L rc a5 M = some ((), M9) := by
  unfold g_L_law_J1553
  simp only [hc.1]
  exact law_cs (R := fun Q => rc (a5 + (5 : Int32)) Q) (cs_bestRobot hI _) hR
theorem law_J1609 {xs : Nat → Int32} {L : Nat} {rc : Int32 → am_M → Option (Unit × am_M)} {a5 : Int32} {M : am_M} (hI : INV M) (hc : LC L a5) (hR : ∀ Q, INV Q → ∃ M9, rc (a5 + (5 : Int32)) Q = some ((), M9)) : ∃ M9, g_L_law_J1609 xs L rc a5 M = some ((), M9) := by
  unfold g_L_law_J1609
  simp only [hc.1, hc.2.1]
  exact law_cs (R := fun Q => rc (a5 + (5 : Int32)) Q) (cs_task hI _ _) hR
theorem law_J1677 {xs : Nat → Int32} {L : Nat} {rc : Int32 → am_M → Option (Unit × am_M)} {a5 : Int32} {M : am_M} (hI : INV M) (hc : LC L a5) (hR : ∀ Q, INV Q → ∃ M9, rc (a5 + (5 : Int32)) Q = some ((), M9)) : ∃ M9, g_L_law_J1677 xs L rc a5 M = some ((), M9) := by
  unfold g_L_law_J1677
  obtain ⟨v, P, Q, h1, h2, _, h4⟩ := cs_assignAll hI
  exact law_c0 (R := fun Q => rc (a5 + (5 : Int32)) Q) ⟨v, P, Q, h1, h2, h4⟩ hR
theorem law_J1690 {xs : Nat → Int32} {L : Nat} {rc : Int32 → am_M → Option (Unit × am_M)} {a5 : Int32} {M : am_M} (hI : INV M) (hc : LC L a5) (hR : ∀ Q, INV Q → ∃ M9, rc (a5 + (5 : Int32)) Q = some ((), M9)) : ∃ M9, g_L_law_J1690 xs L rc a5 M = some ((), M9) := by
  unfold g_L_law_J1690
  simp only [hc.1]
  exact law_cs (R := fun Q => rc (a5 + (5 : Int32)) Q) (cs_tasksIn hI _) hR
theorem law_J1746 {xs : Nat → Int32} {L : Nat} {rc : Int32 → am_M → Option (Unit × am_M)} {a5 : Int32} {M : am_M} (hI : INV M) (hc : LC L a5) (hR : ∀ Q, INV Q → ∃ M9, rc (a5 + (5 : Int32)) Q = some ((), M9)) : ∃ M9, g_L_law_J1746 xs L rc a5 M = some ((), M9) := by
  unfold g_L_law_J1746
  simp only [hc.1]
  exact law_cs (R := fun Q => rc (a5 + (5 : Int32)) Q) (cs_advance hI _) hR
theorem law_J1802 {xs : Nat → Int32} {L : Nat} {rc : Int32 → am_M → Option (Unit × am_M)} {a5 : Int32} {M : am_M} (hI : INV M) (hc : LC L a5) (hR : ∀ Q, INV Q → ∃ M9, rc (a5 + (5 : Int32)) Q = some ((), M9)) : ∃ M9, g_L_law_J1802 xs L rc a5 M = some ((), M9) := by
  unfold g_L_law_J1802
  simp only [hc.1, hc.2.1]
  exact law_cs (R := fun Q => rc (a5 + (5 : Int32)) Q) (cs_statistic hI _ _) hR
theorem law_J1870 {xs : Nat → Int32} {L : Nat} {rc : Int32 → am_M → Option (Unit × am_M)} {a5 : Int32} {M : am_M} (hI : INV M) (hc : LC L a5) (hR : ∀ Q, INV Q → ∃ M9, rc (a5 + (5 : Int32)) Q = some ((), M9)) : ∃ M9, g_L_law_J1870 xs L rc a5 M = some ((), M9) := by
  unfold g_L_law_J1870
  simp only [hc.1]
  obtain ⟨k, v, P, Q, h1, h2, h3, h4, h5⟩ := cs_activity hI (xs (a5 + (1 : Int32)).toNatClampNeg)
  rw [h1, am_b_some, h2, am_b_some]
  unfold g_X10_thrown
  rw [am_b_some, if_pos h3]
  by_cases c : k = 0
  · obtain ⟨n1, n2⟩ := h4 c
    rw [if_pos c, show ∀ x : Option (Unit × am_M), am_ci (0 : Int32) 1 x = x from fun _ => rfl, am_c_true (nn_f2d n1), show am_dg Q 187 (0 : Int32).toNatClampNeg = FP.f2d v from n2, dcmp_self (nn_f2d n1), if_pos rfl]
    exact hR Q h5
  · rw [if_neg c]
    exact hR Q h5
theorem law_J1948 {xs : Nat → Int32} {L : Nat} {rc : Int32 → am_M → Option (Unit × am_M)} {a5 : Int32} {M : am_M} (hI : INV M) (hc : LC L a5) (hR : ∀ Q, INV Q → ∃ M9, rc (a5 + (5 : Int32)) Q = some ((), M9)) : ∃ M9, g_L_law_J1948 xs L rc a5 M = some ((), M9) := by
  unfold g_L_law_J1948
  simp only [hc.1]
  exact law_cs (R := fun Q => rc (a5 + (5 : Int32)) Q) (cs_activityBits hI _) hR
theorem law_J2004 {xs : Nat → Int32} {L : Nat} {rc : Int32 → am_M → Option (Unit × am_M)} {a5 : Int32} {M : am_M} (hI : INV M) (hc : LC L a5) (hR : ∀ Q, INV Q → ∃ M9, rc (a5 + (5 : Int32)) Q = some ((), M9)) : ∃ M9, g_L_law_J2004 xs L rc a5 M = some ((), M9) := by
  unfold g_L_law_J2004
  obtain ⟨k, v, P, Q, h1, h2, h3, h4, h5⟩ := cs_averageDelay hI
  rw [h1, am_b_some, h2, am_b_some]
  unfold g_X10_thrown
  rw [am_b_some, if_pos h3]
  by_cases c : k = 0
  · obtain ⟨n1, n2⟩ := h4 c
    rw [if_pos c, show ∀ x : Option (Unit × am_M), am_ci (0 : Int32) 1 x = x from fun _ => rfl, show am_dg Q 187 (0 : Int32).toNatClampNeg = v from n2, dcmp_self n1, if_pos rfl]
    exact hR Q h5
  · rw [if_neg c]
    exact hR Q h5
theorem law_J2069 {xs : Nat → Int32} {L : Nat} {rc : Int32 → am_M → Option (Unit × am_M)} {a5 : Int32} {M : am_M} (hI : INV M) (hc : LC L a5) (hR : ∀ Q, INV Q → ∃ M9, rc (a5 + (5 : Int32)) Q = some ((), M9)) : ∃ M9, g_L_law_J2069 xs L rc a5 M = some ((), M9) := by
  unfold g_L_law_J2069
  simp only [hc.1]
  exact law_cs (R := fun Q => rc (a5 + (5 : Int32)) Q) (cs_visits hI _) hR
theorem law_J2125 {xs : Nat → Int32} {L : Nat} {rc : Int32 → am_M → Option (Unit × am_M)} {a5 : Int32} {M : am_M} (hI : INV M) (hc : LC L a5) (hR : ∀ Q, INV Q → ∃ M9, rc (a5 + (5 : Int32)) Q = some ((), M9)) : ∃ M9, g_L_law_J2125 xs L rc a5 M = some ((), M9) := by
  unfold g_L_law_J2125
  exact law_c0 (R := fun Q => rc (a5 + (5 : Int32)) Q) (cs_busiest hI) hR
theorem law_J2138 {xs : Nat → Int32} {L : Nat} {rc : Int32 → am_M → Option (Unit × am_M)} {a5 : Int32} {M : am_M} (hI : INV M) (hc : LC L a5) (hR : ∀ Q, INV Q → ∃ M9, rc (a5 + (5 : Int32)) Q = some ((), M9)) : ∃ M9, g_L_law_J2138 xs L rc a5 M = some ((), M9) := by
  unfold g_L_law_J2138
  simp only [hc.1, hc.2.1, hc.2.2.1]
  exact law_cs (R := fun Q => rc (a5 + (5 : Int32)) Q) (cs_sample hI _ _ _) hR
theorem law_J2218 {xs : Nat → Int32} {L : Nat} {rc : Int32 → am_M → Option (Unit × am_M)} {a5 : Int32} {M : am_M} (hI : INV M) (hc : LC L a5) (hR : ∀ Q, INV Q → ∃ M9, rc (a5 + (5 : Int32)) Q = some ((), M9)) : ∃ M9, g_L_law_J2218 xs L rc a5 M = some ((), M9) := by
  unfold g_L_law_J2218
  simp only [hc.1, hc.2.1, hc.2.2.1]
  exact law_cs (R := fun Q => rc (a5 + (5 : Int32)) Q) (cs_sampled hI _ _ _) hR
theorem law_J2298 {xs : Nat → Int32} {L : Nat} {rc : Int32 → am_M → Option (Unit × am_M)} {a5 : Int32} {M : am_M} (hI : INV M) (hc : LC L a5) (hR : ∀ Q, INV Q → ∃ M9, rc (a5 + (5 : Int32)) Q = some ((), M9)) : ∃ M9, g_L_law_J2298 xs L rc a5 M = some ((), M9) := by
  unfold g_L_law_J2298
  simp only [hc.1]
  exact law_cs (R := fun Q => rc (a5 + (5 : Int32)) Q) (cs_append hI _) hR
theorem law_J2356 {xs : Nat → Int32} {L : Nat} {rc : Int32 → am_M → Option (Unit × am_M)} {a5 : Int32} {M : am_M} (hI : INV M) (hc : LC L a5) (hR : ∀ Q, INV Q → ∃ M9, rc (a5 + (5 : Int32)) Q = some ((), M9)) : ∃ M9, g_L_law_J2356 xs L rc a5 M = some ((), M9) := by
  unfold g_L_law_J2356
  exact law_cs (R := fun Q => rc (a5 + (5 : Int32)) Q) (cs_read hI) hR
theorem law_J2400 {xs : Nat → Int32} {L : Nat} {rc : Int32 → am_M → Option (Unit × am_M)} {a5 : Int32} {M : am_M} (hI : INV M) (hc : LC L a5) (hR : ∀ Q, INV Q → ∃ M9, rc (a5 + (5 : Int32)) Q = some ((), M9)) : ∃ M9, g_L_law_J2400 xs L rc a5 M = some ((), M9) := by
  unfold g_L_law_J2400
  exact law_cs (R := fun Q => rc (a5 + (5 : Int32)) Q) (cs_errorPosition hI) hR
theorem law_J2444 {xs : Nat → Int32} {L : Nat} {rc : Int32 → am_M → Option (Unit × am_M)} {a5 : Int32} {M : am_M} (hI : INV M) (hc : LC L a5) (hR : ∀ Q, INV Q → ∃ M9, rc (a5 + (5 : Int32)) Q = some ((), M9)) : ∃ M9, g_L_law_J2444 xs L rc a5 M = some ((), M9) := by
  unfold g_L_law_J2444
  exact law_c0 (R := fun Q => rc (a5 + (5 : Int32)) Q) (cs_save hI) hR
theorem law_J2457 {xs : Nat → Int32} {L : Nat} {rc : Int32 → am_M → Option (Unit × am_M)} {a5 : Int32} {M : am_M} (hI : INV M) (hc : LC L a5) (hR : ∀ Q, INV Q → ∃ M9, rc (a5 + (5 : Int32)) Q = some ((), M9)) : ∃ M9, g_L_law_J2457 xs L rc a5 M = some ((), M9) := by
  unfold g_L_law_J2457
  exact law_cs (R := fun Q => rc (a5 + (5 : Int32)) Q) (cs_restore hI) hR
theorem law_loop {L : Nat} {xs : Nat → Int32} (hL : L ≤ 2560) : ∀ (d q n : Nat) (M : am_M), q + d = 513 → d < n → INV M → ∃ M9, g_L_law_L28 xs L n (pI (5 * q : Nat)) M = some ((), M9)
  | 0, q, n, M, hq, hn, hI => by
    obtain ⟨n, rfl⟩ : ∃ g, n = g + 1 := ⟨n - 1, by omega⟩
    refine ⟨M, ?_⟩
    rw [g_L_law_L28, pi_nat, show (5 : Int32) = pI 5 from rfl, pi_sub, if_pos (show pI ((L : Int) - 5) < pI (5 * q : Nat) by rw [pi_lt (by omega) (by omega) (by omega) (by omega)]; omega)]
  | d + 1, q, n, M, hq, hn, hI => by
    obtain ⟨n, rfl⟩ : ∃ g, n = g + 1 := ⟨n - 1, by omega⟩
    rw [g_L_law_L28, pi_nat, show pI (L : Int) - (5 : Int32) = pI ((L : Int) - 5) from by rw [show (5 : Int32) = pI 5 from rfl, pi_sub]]
    by_cases h : (L : Int) - 5 < (5 * q : Nat)
    · rw [if_pos (show pI ((L : Int) - 5) < pI (5 * q : Nat) by rw [pi_lt (by omega) (by omega) (by omega) (by omega)]; omega)]
      exact ⟨M, rfl⟩
    · rw [if_neg (show ¬ (pI ((L : Int) - 5) < pI (5 * q : Nat)) by rw [pi_lt (by omega) (by omega) (by omega) (by omega)]; omega), pi_ci (by omega) (by omega) (by omega)]
      have hc : LC L (pI (5 * q : Nat)) := by
        refine ⟨fun k => ?_, fun k => ?_, fun k => ?_, fun k => ?_⟩
        · rw [show (1 : Int32) = pI 1 from rfl, pi_add, pi_ci (by omega) (by omega) (by omega)]
        · rw [show (2 : Int32) = pI 2 from rfl, pi_add, pi_ci (by omega) (by omega) (by omega)]
        · rw [show (3 : Int32) = pI 3 from rfl, pi_add, pi_ci (by omega) (by omega) (by omega)]
        · rw [show (4 : Int32) = pI 4 from rfl, pi_add, pi_ci (by omega) (by omega) (by omega)]
      have hR : ∀ Q, INV Q → ∃ M9, g_L_law_L28 xs L n (pI (5 * q : Nat) + (5 : Int32)) Q = some ((), M9) := fun Q hQ => by
        have := law_loop hL (xs := xs) d (q + 1) n Q (by omega) (by omega) hQ
        rw [show pI (5 * q : Nat) + (5 : Int32) = pI (5 * (q + 1) : Nat) from by rw [show (5 : Int32) = pI 5 from rfl, pi_add]; exact congrArg pI (by omega)]
        exact this
      refine ex_ite (law_J216 hI hc hR) ?_
      refine ex_ite (law_J229 hI hc hR) ?_
      refine ex_ite (law_J297 hI hc hR) ?_
      refine ex_ite (law_J353 hI hc hR) ?_
      refine ex_ite (law_J421 hI hc hR) ?_
      refine ex_ite (law_J489 hI hc hR) ?_
      refine ex_ite (law_J557 hI hc hR) ?_
      refine ex_ite (law_J613 hI hc hR) ?_
      refine ex_ite (law_J669 hI hc hR) ?_
      refine ex_ite (law_J737 hI hc hR) ?_
      refine ex_ite (law_J805 hI hc hR) ?_
      refine ex_ite (law_J873 hI hc hR) ?_
      refine ex_ite (law_J941 hI hc hR) ?_
      refine ex_ite (law_J1009 hI hc hR) ?_
      refine ex_ite (law_J1077 hI hc hR) ?_
      refine ex_ite (law_J1145 hI hc hR) ?_
      refine ex_ite (law_J1201 hI hc hR) ?_
      refine ex_ite (law_J1269 hI hc hR) ?_
      refine ex_ite (law_J1337 hI hc hR) ?_
      refine ex_ite (law_J1393 hI hc hR) ?_
      refine ex_ite (law_J1485 hI hc hR) ?_
      refine ex_ite (law_J1553 hI hc hR) ?_
      refine ex_ite (law_J1609 hI hc hR) ?_
      refine ex_ite (law_J1677 hI hc hR) ?_
      refine ex_ite (law_J1690 hI hc hR) ?_
      refine ex_ite (law_J1746 hI hc hR) ?_
      refine ex_ite (law_J1802 hI hc hR) ?_
      refine ex_ite (law_J1870 hI hc hR) ?_
      refine ex_ite (law_J1948 hI hc hR) ?_
      refine ex_ite (law_J2004 hI hc hR) ?_
      refine ex_ite (law_J2069 hI hc hR) ?_
      refine ex_ite (law_J2125 hI hc hR) ?_
      refine ex_ite (law_J2138 hI hc hR) ?_
      refine ex_ite (law_J2218 hI hc hR) ?_
      refine ex_ite (law_J2298 hI hc hR) ?_
      refine ex_ite (law_J2356 hI hc hR) ?_
      refine ex_ite (law_J2400 hI hc hR) ?_
      refine ex_ite (law_J2444 hI hc hR) ?_
      refine ex_ite (law_J2457 hI hc hR) ?_
      exact hR M hI
end SS
