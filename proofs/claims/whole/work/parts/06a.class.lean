/-! printed by wip/whole/drive.py -/
/-! AisleScheduler$World.robotOf(I)LAisleScheduler$Robot; -/
abbrev rm_X8_robotOf : Room := { frames := 1, cells := 0, slots := 0, locals := 24 }
theorem yn_X8_robotOf : am_yn yX8_robotOf 1 := ⟨⟨by decide +kernel, by decide +kernel⟩, by decide +kernel⟩
def g_X8_robotOf (t0 : Nat) (a1 : Int32) (M : am_M) : Option (Nat × am_M) := (if a1 < (0 : Int32) then (some ((t0 + 9), M)) else (if (5 : Int32) ≤ a1 then (some ((t0 + 9), M)) else (am_ci a1 5 (some (((t0 + 7) + 8 + 5 * a1.toNatClampNeg), M)))))
set_option maxHeartbeats 4000000 in
set_option maxRecDepth 100000 in
theorem c_X8_robotOf (l : Launch) (D : va_G) (E : Nat → ClassId) (z : Nat) (t0 : Nat) (y0 : am_ly t0 = (8, 0)) (a1 : Int32) (M : am_M) (r0 : Nat) (M1 : am_M) (h : g_X8_robotOf t0 a1 M = some (r0, M1)) : am_Mr l yX8_robotOf cX8_robotOf 3 (some (.object "AisleScheduler$Robot")) rm_X8_robotOf D E z [.ref (z + t0), .int a1] M r0 M1 := by
  unfold g_X8_robotOf at h
  refine am_of (own := RX8) (by decide +kernel) rfl (by exact Nat.le_of_ble_eq_true rfl) ?_
  intro p e s m args below meth c F hr
  show am_W p l e rm_X8_robotOf s m args below meth c _ 3 D E z 0 0 M 0 [(0, .ref (z + t0)), (1, .int a1)] []
  refine am_iload_n F 1 dX8_robotOf_0 rfl rfl ?_
  refine am_if_lt F (tgt := 22) dX8_robotOf_1 (by decide) (fun c3 => ?_) (fun c3 => ?_)
  · have h := (if_pos c3).symm.trans h
    refine am_null F dX8_robotOf_22 ?_
    refine am_astore_nN F [(2, .null), (0, .ref (z + t0)), (1, .int a1)] dX8_robotOf_23 rfl (by decide) rfl ?_
    refine am_aload_nN F 0 dX8_robotOf_24 rfl rfl ?_
    refine am_ifnonnullN F dX8_robotOf_25 ?_
    refine am_aload_n F 1 dX8_robotOf_28 rfl rfl ?_
    refine gf_X8_35 F y0 dX8_robotOf_29 ?_
    refine am_goto F (tgt := 36) dX8_robotOf_32 (by decide) ?_
    exact am_aret F hr h dX8_robotOf_36
  · have h := (if_neg c3).symm.trans h
    refine am_iload_n F 1 dX8_robotOf_4 rfl rfl ?_
    refine am_aload_n F 0 dX8_robotOf_5 rfl rfl ?_
    refine gf_X8_24 F y0 dX8_robotOf_6 ?_
    refine am_alen F (lyf_8_robots y0) (by decide) (by decide) (t0 := 2) rfl (v := (5 : Int32)) (by decide) dX8_robotOf_9 ?_
    refine am_icmp_ge F (tgt := 22) dX8_robotOf_10 (by decide) (fun c2 => ?_) (fun c2 => ?_)
    · have h := (if_pos c2).symm.trans h
      refine am_null F dX8_robotOf_22 ?_
      refine am_astore_nN F [(2, .null), (0, .ref (z + t0)), (1, .int a1)] dX8_robotOf_23 rfl (by decide) rfl ?_
      refine am_aload_nN F 0 dX8_robotOf_24 rfl rfl ?_
      refine am_ifnonnullN F dX8_robotOf_25 ?_
      refine am_aload_n F 1 dX8_robotOf_28 rfl rfl ?_
      refine gf_X8_35 F y0 dX8_robotOf_29 ?_
      refine am_goto F (tgt := 36) dX8_robotOf_32 (by decide) ?_
      exact am_aret F hr h dX8_robotOf_36
    · have h := (if_neg c2).symm.trans h
      refine am_aload_n F 0 dX8_robotOf_13 rfl rfl ?_
      refine gf_X8_24 F y0 dX8_robotOf_14 ?_
      refine am_iload_n F 1 dX8_robotOf_17 rfl rfl ?_
      obtain ⟨q1, h⟩ := am_ciE h
      refine am_aldq F 2 (fun j => (t0 + 7) + 8 + 5 * j) (lyf_8_robots y0) (by decide) (by decide) rfl rfl q1 dX8_robotOf_18 ?_
      refine am_goto F (tgt := 23) dX8_robotOf_19 (by decide) ?_
      refine am_astore_n F [(2, .ref (z + ((t0 + 7) + 8 + 5 * a1.toNatClampNeg))), (0, .ref (z + t0)), (1, .int a1)] dX8_robotOf_23 rfl (by decide) rfl ?_
      refine am_aload_n F 0 dX8_robotOf_24 rfl rfl ?_
      refine am_ifnonnull F (tgt := 35) dX8_robotOf_25 (by decide) ?_
      refine am_aload_n F 0 dX8_robotOf_35 rfl rfl ?_
      exact am_aret F hr h dX8_robotOf_36
theorem q_X8_robotOf (t0 : Nat) (h0 : am_ly t0 = (8, 0)) (a1 : Int32) (M : am_M) (v : Nat) (M1 : am_M) (h : g_X8_robotOf t0 a1 M = some (v, M1)) : am_ly v = (4, 0) := by
  unfold g_X8_robotOf at h
  by_cases c1 : a1 < (0 : Int32)
  · rw [if_pos c1] at h; cases h; exact lyf_8_noRobot h0
  · rw [if_neg c1] at h
    by_cases c2 : (5 : Int32) ≤ a1
    · rw [if_pos c2] at h; cases h; exact lyf_8_noRobot h0
    · rw [if_neg c2] at h
      obtain ⟨q, h⟩ := am_ciE h
      cases h
      exact lye_22 (lyf_8_robots h0) q
/-! AisleScheduler.at([II)I -/
abbrev rm_X9_at : Room := { frames := 1, cells := 0, slots := 0, locals := 24 }
theorem yn_X9_at : am_yn yX9_at 2 := ⟨⟨by decide +kernel, by decide +kernel⟩, by decide +kernel⟩
def g_X9_at (t0 n0 : Nat) (a1 : Int32) (M : am_M) : Option (Int32 × am_M) := (if a1 < (0 : Int32) then (some ((0 : Int32), M)) else (if (Int32.ofNat n0) ≤ a1 then (some ((0 : Int32), M)) else (am_ci a1 n0 (some ((am_g M t0 a1.toNatClampNeg), M)))))
set_option maxHeartbeats 4000000 in
set_option maxRecDepth 100000 in
theorem c_X9_at (l : Launch) (D : va_G) (E : Nat → ClassId) (z : Nat) (t0 n0 : Nat) (y0 : am_ly t0 = (20, n0)) (a1 : Int32) (M : am_M) (r0 : Int32) (M1 : am_M) (h : g_X9_at t0 n0 a1 M = some (r0, M1)) : am_Mi l yX9_at cX9_at 2 (some .int) rm_X9_at D E z [.ref (z + t0), .int a1] M r0 M1 := by
  unfold g_X9_at at h
  refine am_of (own := RX9) (by decide +kernel) rfl (by exact Nat.le_of_ble_eq_true rfl) ?_
  intro p e s m args below meth c F hr
  show am_W p l e rm_X9_at s m args below meth c _ 2 D E z 0 0 M 0 [(0, .ref (z + t0)), (1, .int a1)] []
  refine am_iload_n F 1 dX9_at_0 rfl rfl ?_
  refine am_if_lt F (tgt := 16) dX9_at_1 (by decide) (fun c3 => ?_) (fun c3 => ?_)
  · have h := (if_pos c3).symm.trans h
    refine am_iconst F (v := (0 : Int32)) dX9_at_16 (by decide) ?_
    exact am_iret F hr h dX9_at_17
  · have h := (if_neg c3).symm.trans h
    refine am_iload_n F 1 dX9_at_4 rfl rfl ?_
    refine am_aload_n F 0 dX9_at_5 rfl rfl ?_
    refine am_alen F y0 (by decide) (by decide) (t0 := 0) rfl (v := (Int32.ofNat n0)) rfl dX9_at_6 ?_
    refine am_icmp_ge F (tgt := 16) dX9_at_7 (by decide) (fun c2 => ?_) (fun c2 => ?_)
    · have h := (if_pos c2).symm.trans h
      refine am_iconst F (v := (0 : Int32)) dX9_at_16 (by decide) ?_
      exact am_iret F hr h dX9_at_17
    · have h := (if_neg c2).symm.trans h
      refine am_aload_n F 0 dX9_at_10 rfl rfl ?_
      refine am_iload_n F 1 dX9_at_11 rfl rfl ?_
      obtain ⟨q1, h⟩ := am_ciE h
      refine am_iald F y0 q1 dX9_at_12 ?_
      refine am_goto F (tgt := 17) dX9_at_13 (by decide) ?_
      exact am_iret F hr h dX9_at_17
/-! AisleScheduler$Plan.placeAt(I)I -/
abbrev rm_X2_placeAt : Room := { frames := 2, cells := 0, slots := 0, locals := 45 }
theorem yn_X2_placeAt : am_yn yX2_placeAt 1 := ⟨⟨by decide +kernel, by decide +kernel⟩, by decide +kernel⟩
def g_X2_placeAt (t0 : Nat) (a1 : Int32) (M : am_M) : Option (Int32 × am_M) := (am_b (g_X9_at (t0 + 2) 31 (if (0 : Int32) < (if (am_g M t0 3) < (a1 - (am_g M t0 2)) then (am_g M t0 3) else (a1 - (am_g M t0 2))) then (if (am_g M t0 3) < (a1 - (am_g M t0 2)) then (am_g M t0 3) else (a1 - (am_g M t0 2))) else (0 : Int32)) M) (fun v3 M2 => (some (v3, M2))))
set_option maxHeartbeats 4000000 in
set_option maxRecDepth 100000 in
theorem c_X2_placeAt (l : Launch) (D : va_G) (E : Nat → ClassId) (z : Nat) (t0 : Nat) (y0 : am_ly t0 = (2, 0)) (a1 : Int32) (M : am_M) (r0 : Int32) (M1 : am_M) (h : g_X2_placeAt t0 a1 M = some (r0, M1)) : am_Mi l yX2_placeAt cX2_placeAt 2 (some .int) rm_X2_placeAt D E z [.ref (z + t0), .int a1] M r0 M1 := by
  unfold g_X2_placeAt at h
  refine am_of (own := RX2) (by decide +kernel) rfl (by exact Nat.le_of_ble_eq_true rfl) ?_
  intro p e s m args below meth c F hr
  show am_W p l e rm_X2_placeAt s m args below meth c _ 2 D E z 0 0 M 0 [(0, .ref (z + t0)), (1, .int a1)] []
  refine am_aload_n F 0 dX2_placeAt_0 rfl rfl ?_
  refine gf_X2_15 F y0 dX2_placeAt_1 ?_
  refine am_iconst F (v := (0 : Int32)) dX2_placeAt_4 (by decide) ?_
  refine am_iload_n F 1 dX2_placeAt_5 rfl rfl ?_
  refine am_aload_n F 0 dX2_placeAt_6 rfl rfl ?_
  refine gf_X2_22 F y0 dX2_placeAt_7 ?_
  refine am_isub F dX2_placeAt_10 ?_
  refine am_aload_n F 0 dX2_placeAt_11 rfl rfl ?_
  refine gf_X2_26 F y0 dX2_placeAt_12 ?_
  refine am_min F dX2_placeAt_15 wd_416 (Nat.le_of_ble_eq_true rfl) (Nat.le_of_ble_eq_true rfl) (Nat.le_of_ble_eq_true rfl) (Nat.le_of_ble_eq_true rfl) ?_
  refine am_max F dX2_placeAt_18 wd_400 (Nat.le_of_ble_eq_true rfl) (Nat.le_of_ble_eq_true rfl) (Nat.le_of_ble_eq_true rfl) (Nat.le_of_ble_eq_true rfl) ?_
  obtain ⟨v3, M2, h1, h⟩ := am_bE h
  refine am_callSNi F [.ref (z + (t0 + 2)), .int (if (0 : Int32) < (if (am_g M t0 3) < (a1 - (am_g M t0 2)) then (am_g M t0 3) else (a1 - (am_g M t0 2))) then (if (am_g M t0 3) < (a1 - (am_g M t0 2)) then (am_g M t0 3) else (a1 - (am_g M t0 2))) else (0 : Int32))] cw_X2_43  (c_X9_at l D E z (t0 + 2) 31 (lyf_2_places y0) (if (0 : Int32) < (if (am_g M t0 3) < (a1 - (am_g M t0 2)) then (am_g M t0 3) else (a1 - (am_g M t0 2))) then (if (am_g M t0 3) < (a1 - (am_g M t0 2)) then (am_g M t0 3) else (a1 - (am_g M t0 2))) else (0 : Int32)) M v3 M2 h1) yn_X9_at rfl ⟨Nat.le_of_ble_eq_true rfl, Nat.le_of_ble_eq_true rfl⟩ rfl rfl (Nat.le_of_ble_eq_true rfl) ⟨Nat.zero_le _, Nat.zero_le _⟩ dX2_placeAt_21 rfl ?_
  exact am_iret F hr h dX2_placeAt_24
/-! AisleScheduler.put([III)V -/
abbrev rm_X9_put : Room := { frames := 1, cells := 0, slots := 0, locals := 24 }
theorem yn_X9_put : am_yn yX9_put 3 := ⟨⟨by decide +kernel, by decide +kernel⟩, by decide +kernel⟩
def g_X9_put (t0 n0 : Nat) (a1 : Int32) (a2 : Int32) (M : am_M) : Option (Unit × am_M) := (if a1 < (0 : Int32) then (some ((), M)) else (if (Int32.ofNat n0) ≤ a1 then (some ((), M)) else (am_ci a1 n0 (some ((), (am_s M t0 a1.toNatClampNeg a2))))))
set_option maxHeartbeats 4000000 in
set_option maxRecDepth 100000 in
theorem c_X9_put (l : Launch) (D : va_G) (E : Nat → ClassId) (z : Nat) (t0 n0 : Nat) (y0 : am_ly t0 = (20, n0)) (a1 : Int32) (a2 : Int32) (M : am_M)  (M1 : am_M) (h : g_X9_put t0 n0 a1 a2 M = some ((), M1)) : am_Mv l yX9_put cX9_put 3 none rm_X9_put D E z [.ref (z + t0), .int a1, .int a2] M M1 := by
  unfold g_X9_put at h
  refine am_of (own := RX9) (by decide +kernel) rfl (by exact Nat.le_of_ble_eq_true rfl) ?_
  intro p e s m args below meth c F hr
  show am_W p l e rm_X9_put s m args below meth c _ 3 D E z 0 0 M 0 [(0, .ref (z + t0)), (1, .int a1), (2, .int a2)] []
  refine am_iload_n F 1 dX9_put_0 rfl rfl ?_
  refine am_if_lt F (tgt := 14) dX9_put_1 (by decide) (fun c3 => ?_) (fun c3 => ?_)
  · have h := (if_pos c3).symm.trans h
    exact am_vret F hr h dX9_put_14
  · have h := (if_neg c3).symm.trans h
    refine am_iload_n F 1 dX9_put_4 rfl rfl ?_
    refine am_aload_n F 0 dX9_put_5 rfl rfl ?_
    refine am_alen F y0 (by decide) (by decide) (t0 := 0) rfl (v := (Int32.ofNat n0)) rfl dX9_put_6 ?_
    refine am_icmp_ge F (tgt := 14) dX9_put_7 (by decide) (fun c2 => ?_) (fun c2 => ?_)
    · have h := (if_pos c2).symm.trans h
      exact am_vret F hr h dX9_put_14
    · have h := (if_neg c2).symm.trans h
      refine am_aload_n F 0 dX9_put_10 rfl rfl ?_
      refine am_iload_n F 1 dX9_put_11 rfl rfl ?_
      refine am_iload_n F 2 dX9_put_12 rfl rfl ?_
      obtain ⟨q1, h⟩ := am_ciE h
      refine am_iast F y0 q1 dX9_put_13 ?_
      exact am_vret F hr h dX9_put_14
/-! AisleScheduler$Plan.restAt(II)V -/
abbrev rm_X2_restAt : Room := { frames := 2, cells := 0, slots := 0, locals := 46 }
theorem yn_X2_restAt : am_yn yX2_restAt 2 := ⟨⟨by decide +kernel, by decide +kernel⟩, by decide +kernel⟩
def g_X2_restAt (t0 : Nat) (a1 : Int32) (a2 : Int32) (M : am_M) : Option (Unit × am_M) := (am_b (g_X9_put (t0 + 2) 31 (0 : Int32) a1 M) (fun _ M2 => (some ((), (am_s (am_s (am_s M2 t0 2 a2) t0 3 (0 : Int32)) t0 4 (0 : Int32))))))
set_option maxHeartbeats 4000000 in
set_option maxRecDepth 100000 in
theorem c_X2_restAt (l : Launch) (D : va_G) (E : Nat → ClassId) (z : Nat) (t0 : Nat) (y0 : am_ly t0 = (2, 0)) (a1 : Int32) (a2 : Int32) (M : am_M)  (M1 : am_M) (h : g_X2_restAt t0 a1 a2 M = some ((), M1)) : am_Mv l yX2_restAt cX2_restAt 3 none rm_X2_restAt D E z [.ref (z + t0), .int a1, .int a2] M M1 := by
  unfold g_X2_restAt at h
  refine am_of (own := RX2) (by decide +kernel) rfl (by exact Nat.le_of_ble_eq_true rfl) ?_
  intro p e s m args below meth c F hr
  show am_W p l e rm_X2_restAt s m args below meth c _ 3 D E z 0 0 M 0 [(0, .ref (z + t0)), (1, .int a1), (2, .int a2)] []
  refine am_aload_n F 0 dX2_restAt_0 rfl rfl ?_
  refine gf_X2_15 F y0 dX2_restAt_1 ?_
  refine am_iconst F (v := (0 : Int32)) dX2_restAt_4 (by decide) ?_
  refine am_iload_n F 1 dX2_restAt_5 rfl rfl ?_
  obtain ⟨_, M2, h1, h⟩ := am_bE h
  refine am_callSNv F [.ref (z + (t0 + 2)), .int (0 : Int32), .int a1] cw_X2_18  (c_X9_put l D E z (t0 + 2) 31 (lyf_2_places y0) (0 : Int32) a1 M M2 h1) yn_X9_put rfl ⟨Nat.le_of_ble_eq_true rfl, Nat.le_of_ble_eq_true rfl⟩ rfl rfl (Nat.le_of_ble_eq_true rfl) ⟨Nat.zero_le _, Nat.zero_le _⟩ dX2_restAt_6 rfl ?_
  refine am_aload_n F 0 dX2_restAt_9 rfl rfl ?_
  refine am_iload_n F 2 dX2_restAt_10 rfl rfl ?_
  refine pf_X2_22 F y0 dX2_restAt_11 ?_
  refine am_aload_n F 0 dX2_restAt_14 rfl rfl ?_
  refine am_iconst F (v := (0 : Int32)) dX2_restAt_15 (by decide) ?_
  refine pf_X2_26 F y0 dX2_restAt_16 ?_
  refine am_aload_n F 0 dX2_restAt_19 rfl rfl ?_
  refine am_iconst F (v := (0 : Int32)) dX2_restAt_20 (by decide) ?_
  refine pf_X2_29 F y0 dX2_restAt_21 ?_
  exact am_vret F hr h dX2_restAt_24
/-! AisleScheduler$Floor.isWall(I)Z -/
abbrev rm_X1_isWall : Room := { frames := 2, cells := 0, slots := 0, locals := 45 }
theorem yn_X1_isWall : am_yn yX1_isWall 1 := ⟨⟨by decide +kernel, by decide +kernel⟩, by decide +kernel⟩
def g_X1_isWall (t0 : Nat) (a1 : Int32) (M : am_M) : Option (Int32 × am_M) := (am_b (g_X9_at (t0 + 1) 40 a1 M) (fun v3 M2 => (if v3 = (1 : Int32) then (some ((1 : Int32), M2)) else (some ((0 : Int32), M2)))))
set_option maxHeartbeats 4000000 in
set_option maxRecDepth 100000 in
theorem c_X1_isWall (l : Launch) (D : va_G) (E : Nat → ClassId) (z : Nat) (t0 : Nat) (y0 : am_ly t0 = (1, 0)) (a1 : Int32) (M : am_M) (r0 : Int32) (M1 : am_M) (h : g_X1_isWall t0 a1 M = some (r0, M1)) : am_Mi l yX1_isWall cX1_isWall 2 (some .boolean) rm_X1_isWall D E z [.ref (z + t0), .int a1] M r0 M1 := by
  unfold g_X1_isWall at h
  refine am_of (own := RX1) (by decide +kernel) rfl (by exact Nat.le_of_ble_eq_true rfl) ?_
  intro p e s m args below meth c F hr
  show am_W p l e rm_X1_isWall s m args below meth c _ 2 D E z 0 0 M 0 [(0, .ref (z + t0)), (1, .int a1)] []
  refine am_aload_n F 0 dX1_isWall_0 rfl rfl ?_
  refine gf_X1_9 F y0 dX1_isWall_1 ?_
  refine am_iload_n F 1 dX1_isWall_4 rfl rfl ?_
  obtain ⟨v3, M2, h1, h⟩ := am_bE h
  refine am_callSNi F [.ref (z + (t0 + 1)), .int a1] cw_X1_47  (c_X9_at l D E z (t0 + 1) 40 (lyf_1_kinds y0) a1 M v3 M2 h1) yn_X9_at rfl ⟨Nat.le_of_ble_eq_true rfl, Nat.le_of_ble_eq_true rfl⟩ rfl rfl (Nat.le_of_ble_eq_true rfl) ⟨Nat.zero_le _, Nat.zero_le _⟩ dX1_isWall_5 rfl ?_
  refine am_iconst F (v := (1 : Int32)) dX1_isWall_8 (by decide) ?_
  refine am_icmp_ne F (tgt := 16) dX1_isWall_9 (by decide) (fun c4 => ?_) (fun c4 => ?_)
  · have h := (if_neg c4).symm.trans h
    refine am_iconst F (v := (0 : Int32)) dX1_isWall_16 (by decide) ?_
    exact am_zret F hr (by decide) h dX1_isWall_17
  · have h := (if_pos c4).symm.trans h
    refine am_iconst F (v := (1 : Int32)) dX1_isWall_12 (by decide) ?_
    refine am_goto F (tgt := 17) dX1_isWall_13 (by decide) ?_
    exact am_zret F hr (by decide) h dX1_isWall_17
/-! AisleScheduler.bit(I)J -/
abbrev rm_X9_bit : Room := { frames := 1, cells := 0, slots := 0, locals := 24 }
theorem yn_X9_bit : am_yn yX9_bit 1 := ⟨⟨by decide +kernel, by decide +kernel⟩, by decide +kernel⟩
def g_X9_bit (a0 : Int32) (M : am_M) : Option (Int64 × am_M) := (if a0 < (0 : Int32) then (some ((0 : Int64), M)) else (if (40 : Int32) ≤ a0 then (some ((0 : Int64), M)) else (some (((1 : Int64) <<< (a0.toInt64 &&& 63)), M))))
set_option maxHeartbeats 4000000 in
set_option maxRecDepth 100000 in
theorem c_X9_bit (l : Launch) (D : va_G) (E : Nat → ClassId) (z : Nat) (a0 : Int32) (M : am_M) (r0 : Int64) (M1 : am_M) (h : g_X9_bit a0 M = some (r0, M1)) : am_Ml l yX9_bit cX9_bit 1 (some .long) rm_X9_bit D E z [.int a0] M r0 M1 := by
  unfold g_X9_bit at h
  refine am_of (own := RX9) (by decide +kernel) rfl (by exact Nat.le_of_ble_eq_true rfl) ?_
  intro p e s m args below meth c F hr
  show am_W p l e rm_X9_bit s m args below meth c _ 1 D E z 0 0 M 0 [(0, .int a0)] []
  refine am_iload_n F 0 dX9_bit_0 rfl rfl ?_
  refine am_if_lt F (tgt := 16) dX9_bit_1 (by decide) (fun c2 => ?_) (fun c2 => ?_)
  · have h := (if_pos c2).symm.trans h
    refine am_lconst F (v := (0 : Int64)) dX9_bit_16 (by decide) ?_
    exact am_lret F hr h dX9_bit_17
  · have h := (if_neg c2).symm.trans h
    refine am_iload_n F 0 dX9_bit_4 rfl rfl ?_
    refine am_bipush F (v := (40 : Int32)) dX9_bit_5 (by decide) ?_
    refine am_icmp_ge F (tgt := 16) dX9_bit_7 (by decide) (fun c1 => ?_) (fun c1 => ?_)
    · have h := (if_pos c1).symm.trans h
      refine am_lconst F (v := (0 : Int64)) dX9_bit_16 (by decide) ?_
      exact am_lret F hr h dX9_bit_17
    · have h := (if_neg c1).symm.trans h
      refine am_lconst F (v := (1 : Int64)) dX9_bit_10 (by decide) ?_
      refine am_iload_n F 0 dX9_bit_11 rfl rfl ?_
      refine am_lshl F dX9_bit_12 ?_
      refine am_goto F (tgt := 17) dX9_bit_13 (by decide) ?_
      exact am_lret F hr h dX9_bit_17
/-! AisleScheduler$Floor.walls()J -/
abbrev rm_X1_walls : Room := { frames := 3, cells := 0, slots := 0, locals := 66 }
theorem yn_X1_walls : am_yn yX1_walls 0 := ⟨⟨by decide +kernel, by decide +kernel⟩, by decide +kernel⟩
def g_X1_walls_L4 (t0 : Nat) : Nat → Int64 → Int32 → am_M → Option ((Int64) × am_M)
  | 0, _, _, _ => none
  | n + 1, a1, a3, M => (if (40 : Int32) ≤ a3 then (some (a1, M)) else (am_b (g_X1_isWall t0 a3 M) (fun v3 M2 => (if v3 = (0 : Int32) then (g_X1_walls_L4 t0 n a1 (a3 + (1 : Int32)) M2) else (am_b (g_X9_bit a3 M2) (fun v6 M5 => (g_X1_walls_L4 t0 n (a1 ||| v6) (a3 + (1 : Int32)) M5)))))))
set_option maxHeartbeats 4000000 in
set_option maxRecDepth 100000 in
theorem cl_X1_walls_L4 {l : Launch} {p : Program} {e : Env} {s : State} {m : MethodId} {args : Array Value} {below : List Frame} {meth : Method} {c : Code} {Q : State → Prop} {D : va_G} {E : Nat → ClassId} {z : Nat} (F : am_F p s m args meth c cX1_walls 4 RX1 D E z) (t0 : Nat) (y0 : am_ly t0 = (1, 0)) : ∀ (n : Nat) (a1 : Int64) (a3 : Int32) (M : am_M) (x : Int64) (M1 : am_M), g_X1_walls_L4 t0 n a1 a3 M = some (x, M1) → (am_W p l e rm_X1_walls s m args below meth c Q 4 D E z 0 0 M1 31 [(1, .long x)] []) → am_W p l e rm_X1_walls s m args below meth c Q 4 D E z 0 0 M 4 [(0, .ref (z + t0)), (1, .long a1), (3, .int a3)] [] := by
  intro n
  induction n with
  | zero => intro a1 a3 M x M1 h K; cases h
  | succ n ih =>
    intro a1 a3 M x M1 h K
    rw [g_X1_walls_L4] at h
    refine am_iload_n F 2 dX1_walls_4 rfl rfl ?_
    refine am_bipush F (v := (40 : Int32)) dX1_walls_5 (by decide) ?_
    refine am_icmp_ge F (tgt := 31) dX1_walls_7 (by decide) (fun c8 => ?_) (fun c8 => ?_)
    · have h := (if_pos c8).symm.trans h
      cases h
      exact am_sub (lv' := [(1, .long a1)]) [1] rfl (K)
    · have h := (if_neg c8).symm.trans h
      refine am_aload_n F 0 dX1_walls_10 rfl rfl ?_
      refine am_iload_n F 2 dX1_walls_11 rfl rfl ?_
      obtain ⟨v3, M2, h1, h⟩ := am_bE h
      refine am_callVi F [.int a3] y0 (by decide) rfl cw_X1_51 (c_X1_isWall l D E z t0 y0 a3 M v3 M2 h1) yn_X1_isWall rfl ⟨Nat.le_of_ble_eq_true rfl, Nat.le_of_ble_eq_true rfl⟩ rfl rfl (Nat.le_of_ble_eq_true rfl) ⟨Nat.zero_le _, Nat.zero_le _⟩ dX1_walls_12 rfl ?_
      refine am_if_eq F (tgt := 25) dX1_walls_15 (by decide) (fun c7 => ?_) (fun c7 => ?_)
      · have h := (if_pos c7).symm.trans h
        refine am_iinc F [(3, .int (a3 + (1 : Int32))), (0, .ref (z + t0)), (1, .long a1)] 2 dX1_walls_25 (by decide) rfl rfl rfl ?_
        refine am_goto F (tgt := 4) dX1_walls_28 (by decide) ?_
        exact am_sub (lv' := [(0, .ref (z + t0)), (1, .long a1), (3, .int (a3 + (1 : Int32)))]) [1, 2, 0] rfl (ih a1 (a3 + (1 : Int32)) M2 _ _ h K)
      · have h := (if_neg c7).symm.trans h
        refine am_lload_n F 1 dX1_walls_18 rfl rfl ?_
        refine am_iload_n F 2 dX1_walls_19 rfl rfl ?_
        obtain ⟨v6, M5, h4, h⟩ := am_bE h
        refine am_callSNl F [.int a3] cw_X1_55  (c_X9_bit l D E z a3 M2 v6 M5 h4) yn_X9_bit rfl ⟨Nat.le_of_ble_eq_true rfl, Nat.le_of_ble_eq_true rfl⟩ rfl rfl (Nat.le_of_ble_eq_true rfl) ⟨Nat.zero_le _, Nat.zero_le _⟩ dX1_walls_20 rfl ?_
        refine am_lor F dX1_walls_23 ?_
        refine am_lstore_n F [(1, .long (a1 ||| v6)), (0, .ref (z + t0)), (3, .int a3)] dX1_walls_24 rfl (by decide) rfl ?_
        refine am_iinc F [(3, .int (a3 + (1 : Int32))), (1, .long (a1 ||| v6)), (0, .ref (z + t0))] 2 dX1_walls_25 (by decide) rfl rfl rfl ?_
        refine am_goto F (tgt := 4) dX1_walls_28 (by decide) ?_
        exact am_sub (lv' := [(0, .ref (z + t0)), (1, .long (a1 ||| v6)), (3, .int (a3 + (1 : Int32)))]) [2, 1, 0] rfl (ih (a1 ||| v6) (a3 + (1 : Int32)) M5 _ _ h K)
def g_X1_walls (t0 : Nat) (M : am_M) : Option (Int64 × am_M) := (am_b (g_X1_walls_L4 t0 am_fu (0 : Int64) (0 : Int32) M) (fun x9 M10 => (some (x9, M10))))
set_option maxHeartbeats 4000000 in
set_option maxRecDepth 100000 in
theorem c_X1_walls (l : Launch) (D : va_G) (E : Nat → ClassId) (z : Nat) (t0 : Nat) (y0 : am_ly t0 = (1, 0)) (M : am_M) (r0 : Int64) (M1 : am_M) (h : g_X1_walls t0 M = some (r0, M1)) : am_Ml l yX1_walls cX1_walls 4 (some .long) rm_X1_walls D E z [.ref (z + t0)] M r0 M1 := by
  unfold g_X1_walls at h
  refine am_of (own := RX1) (by decide +kernel) rfl (by exact Nat.le_of_ble_eq_true rfl) ?_
  intro p e s m args below meth c F hr
  show am_W p l e rm_X1_walls s m args below meth c _ 4 D E z 0 0 M 0 [(0, .ref (z + t0))] []
  refine am_lconst F (v := (0 : Int64)) dX1_walls_0 (by decide) ?_
  refine am_lstore_n F [(1, .long (0 : Int64)), (0, .ref (z + t0))] dX1_walls_1 rfl (by decide) rfl ?_
  refine am_iconst F (v := (0 : Int32)) dX1_walls_2 (by decide) ?_
  refine am_istore_n F [(3, .int (0 : Int32)), (1, .long (0 : Int64)), (0, .ref (z + t0))] dX1_walls_3 rfl (by decide) rfl ?_
  obtain ⟨x9, M10, h11, h⟩ := am_bE h
  refine am_sub (lv' := [(0, .ref (z + t0)), (1, .long (0 : Int64)), (3, .int (0 : Int32))]) [2, 1, 0] rfl (cl_X1_walls_L4 F t0 y0 am_fu (0 : Int64) (0 : Int32) M x9 M10 h11 ?_)
  refine am_lload_n F 0 dX1_walls_31 rfl rfl ?_
  exact am_lret F hr h dX1_walls_32
/-! AisleScheduler.fillMasks([JJ)V -/
abbrev rm_X9_fillMasks : Room := { frames := 1, cells := 0, slots := 0, locals := 24 }
theorem yn_X9_fillMasks : am_yn yX9_fillMasks 2 := ⟨⟨by decide +kernel, by decide +kernel⟩, by decide +kernel⟩
def g_X9_fillMasks_L2 (t0 n0 : Nat) (a1 : Int64) : Nat → Int32 → am_M → Option ((Unit) × am_M)
  | 0, _, _ => none
  | n + 1, a3, M => (if (Int32.ofNat n0) ≤ a3 then (some ((), M)) else (am_ci a3 n0 (g_X9_fillMasks_L2 t0 n0 a1 n (a3 + (1 : Int32)) (am_ls M t0 a3.toNatClampNeg a1))))
set_option maxHeartbeats 4000000 in
set_option maxRecDepth 100000 in
theorem cl_X9_fillMasks_L2 {l : Launch} {p : Program} {e : Env} {s : State} {m : MethodId} {args : Array Value} {below : List Frame} {meth : Method} {c : Code} {Q : State → Prop} {D : va_G} {E : Nat → ClassId} {z : Nat} (F : am_F p s m args meth c cX9_fillMasks 4 RX9 D E z) (t0 n0 : Nat) (y0 : am_ly t0 = (21, n0)) (a1 : Int64) : ∀ (n : Nat) (a3 : Int32) (M : am_M) (x : Unit) (M1 : am_M), g_X9_fillMasks_L2 t0 n0 a1 n a3 M = some (x, M1) → (am_W p l e rm_X9_fillMasks s m args below meth c Q 4 D E z 0 0 M1 18 [] []) → am_W p l e rm_X9_fillMasks s m args below meth c Q 4 D E z 0 0 M 2 [(0, .ref (z + t0)), (1, .long a1), (3, .int a3)] [] := by
  intro n
  induction n with
  | zero => intro a3 M x M1 h K; cases h
  | succ n ih =>
    intro a3 M x M1 h K
    rw [g_X9_fillMasks_L2] at h
    refine am_iload_n F 2 dX9_fillMasks_2 rfl rfl ?_
    refine am_aload_n F 0 dX9_fillMasks_3 rfl rfl ?_
    refine am_alen F y0 (by decide) (by decide) (t0 := 1) rfl (v := (Int32.ofNat n0)) rfl dX9_fillMasks_4 ?_
    refine am_icmp_ge F (tgt := 18) dX9_fillMasks_5 (by decide) (fun c2 => ?_) (fun c2 => ?_)
    · have h := (if_pos c2).symm.trans h
      cases h
      exact am_sub (lv' := []) [] rfl (K)
    · have h := (if_neg c2).symm.trans h
      refine am_aload_n F 0 dX9_fillMasks_8 rfl rfl ?_
      refine am_iload_n F 2 dX9_fillMasks_9 rfl rfl ?_
      refine am_lload_n F 1 dX9_fillMasks_10 rfl rfl ?_
      obtain ⟨q1, h⟩ := am_ciE h
      refine am_last F y0 q1 dX9_fillMasks_11 ?_
      refine am_iinc F [(3, .int (a3 + (1 : Int32))), (0, .ref (z + t0)), (1, .long a1)] 2 dX9_fillMasks_12 (by decide) rfl rfl rfl ?_
      refine am_goto F (tgt := 2) dX9_fillMasks_15 (by decide) ?_
      exact am_sub (lv' := [(0, .ref (z + t0)), (1, .long a1), (3, .int (a3 + (1 : Int32)))]) [1, 2, 0] rfl (ih (a3 + (1 : Int32)) (am_ls M t0 a3.toNatClampNeg a1) _ _ h K)
def g_X9_fillMasks (t0 n0 : Nat) (a1 : Int64) (M : am_M) : Option (Unit × am_M) := (am_b (g_X9_fillMasks_L2 t0 n0 a1 am_fu (0 : Int32) M) (fun x3 M4 => (some ((), M4))))
set_option maxHeartbeats 4000000 in
set_option maxRecDepth 100000 in
theorem c_X9_fillMasks (l : Launch) (D : va_G) (E : Nat → ClassId) (z : Nat) (t0 n0 : Nat) (y0 : am_ly t0 = (21, n0)) (a1 : Int64) (M : am_M)  (M1 : am_M) (h : g_X9_fillMasks t0 n0 a1 M = some ((), M1)) : am_Mv l yX9_fillMasks cX9_fillMasks 4 none rm_X9_fillMasks D E z [.ref (z + t0), .long a1] M M1 := by
  unfold g_X9_fillMasks at h
  refine am_of (own := RX9) (by decide +kernel) rfl (by exact Nat.le_of_ble_eq_true rfl) ?_
  intro p e s m args below meth c F hr
  show am_W p l e rm_X9_fillMasks s m args below meth c _ 4 D E z 0 0 M 0 [(0, .ref (z + t0)), (1, .long a1)] []
  refine am_iconst F (v := (0 : Int32)) dX9_fillMasks_0 (by decide) ?_
  refine am_istore_n F [(3, .int (0 : Int32)), (0, .ref (z + t0)), (1, .long a1)] dX9_fillMasks_1 rfl (by decide) rfl ?_
  obtain ⟨x3, M4, h5, h⟩ := am_bE h
  refine am_sub (lv' := [(0, .ref (z + t0)), (1, .long a1), (3, .int (0 : Int32))]) [1, 2, 0] rfl (cl_X9_fillMasks_L2 F t0 n0 y0 a1 am_fu (0 : Int32) M x3 M4 h5 ?_)
  exact am_vret F hr h dX9_fillMasks_18
/-! AisleScheduler.join([JIJ)V -/
abbrev rm_X9_join : Room := { frames := 1, cells := 0, slots := 0, locals := 24 }
theorem yn_X9_join : am_yn yX9_join 3 := ⟨⟨by decide +kernel, by decide +kernel⟩, by decide +kernel⟩
def g_X9_join (t0 n0 : Nat) (a1 : Int32) (a2 : Int64) (M : am_M) : Option (Unit × am_M) := (if a1 < (0 : Int32) then (some ((), M)) else (if (Int32.ofNat n0) ≤ a1 then (some ((), M)) else (am_ci a1 n0 (am_ci a1 n0 (some ((), (am_ls M t0 a1.toNatClampNeg ((am_lg M t0 a1.toNatClampNeg) ||| a2))))))))
set_option maxHeartbeats 4000000 in
set_option maxRecDepth 100000 in
theorem c_X9_join (l : Launch) (D : va_G) (E : Nat → ClassId) (z : Nat) (t0 n0 : Nat) (y0 : am_ly t0 = (21, n0)) (a1 : Int32) (a2 : Int64) (M : am_M)  (M1 : am_M) (h : g_X9_join t0 n0 a1 a2 M = some ((), M1)) : am_Mv l yX9_join cX9_join 4 none rm_X9_join D E z [.ref (z + t0), .int a1, .long a2] M M1 := by
  unfold g_X9_join at h
  refine am_of (own := RX9) (by decide +kernel) rfl (by exact Nat.le_of_ble_eq_true rfl) ?_
  intro p e s m args below meth c F hr
  show am_W p l e rm_X9_join s m args below meth c _ 4 D E z 0 0 M 0 [(0, .ref (z + t0)), (1, .int a1), (2, .long a2)] []
  refine am_iload_n F 1 dX9_join_0 rfl rfl ?_
  refine am_if_lt F (tgt := 17) dX9_join_1 (by decide) (fun c4 => ?_) (fun c4 => ?_)
  · have h := (if_pos c4).symm.trans h
    exact am_vret F hr h dX9_join_17
  · have h := (if_neg c4).symm.trans h
    refine am_iload_n F 1 dX9_join_4 rfl rfl ?_
    refine am_aload_n F 0 dX9_join_5 rfl rfl ?_
    refine am_alen F y0 (by decide) (by decide) (t0 := 1) rfl (v := (Int32.ofNat n0)) rfl dX9_join_6 ?_
    refine am_icmp_ge F (tgt := 17) dX9_join_7 (by decide) (fun c3 => ?_) (fun c3 => ?_)
    · have h := (if_pos c3).symm.trans h
      exact am_vret F hr h dX9_join_17
    · have h := (if_neg c3).symm.trans h
      refine am_aload_n F 0 dX9_join_10 rfl rfl ?_
      refine am_iload_n F 1 dX9_join_11 rfl rfl ?_
      refine am_dup2 F dX9_join_12 rfl rfl ?_
      obtain ⟨q1, h⟩ := am_ciE h
      refine am_lald F y0 q1 dX9_join_13 ?_
      refine am_lload_n F 2 dX9_join_14 rfl rfl ?_
      refine am_lor F dX9_join_15 ?_
      obtain ⟨q2, h⟩ := am_ciE h
      refine am_last F y0 q2 dX9_join_16 ?_
      exact am_vret F hr h dX9_join_17
/-! AisleScheduler$Plan.actionAt(I)I -/
abbrev rm_X2_actionAt : Room := { frames := 2, cells := 0, slots := 0, locals := 45 }
theorem yn_X2_actionAt : am_yn yX2_actionAt 1 := ⟨⟨by decide +kernel, by decide +kernel⟩, by decide +kernel⟩
def g_X2_actionAt (t0 : Nat) (a1 : Int32) (M : am_M) : Option (Int32 × am_M) := (if (am_g M t0 3) ≤ (a1 - (am_g M t0 2)) then (some ((0 : Int32), M)) else (am_b (g_X9_at (t0 + 1) 30 (a1 - (am_g M t0 2)) M) (fun v3 M2 => (some (v3, M2)))))
set_option maxHeartbeats 4000000 in
set_option maxRecDepth 100000 in
theorem c_X2_actionAt (l : Launch) (D : va_G) (E : Nat → ClassId) (z : Nat) (t0 : Nat) (y0 : am_ly t0 = (2, 0)) (a1 : Int32) (M : am_M) (r0 : Int32) (M1 : am_M) (h : g_X2_actionAt t0 a1 M = some (r0, M1)) : am_Mi l yX2_actionAt cX2_actionAt 3 (some .int) rm_X2_actionAt D E z [.ref (z + t0), .int a1] M r0 M1 := by
  unfold g_X2_actionAt at h
  refine am_of (own := RX2) (by decide +kernel) rfl (by exact Nat.le_of_ble_eq_true rfl) ?_
  intro p e s m args below meth c F hr
  show am_W p l e rm_X2_actionAt s m args below meth c _ 3 D E z 0 0 M 0 [(0, .ref (z + t0)), (1, .int a1)] []
  refine am_iload_n F 1 dX2_actionAt_0 rfl rfl ?_
  refine am_aload_n F 0 dX2_actionAt_1 rfl rfl ?_
  refine gf_X2_22 F y0 dX2_actionAt_2 ?_
  refine am_isub F dX2_actionAt_5 ?_
  refine am_istore_n F [(2, .int (a1 - (am_g M t0 2))), (0, .ref (z + t0)), (1, .int a1)] dX2_actionAt_6 rfl (by decide) rfl ?_
  refine am_iload_n F 0 dX2_actionAt_7 rfl rfl ?_
  refine am_aload_n F 1 dX2_actionAt_8 rfl rfl ?_
  refine gf_X2_26 F y0 dX2_actionAt_9 ?_
  refine am_icmp_ge F (tgt := 26) dX2_actionAt_12 (by decide) (fun c4 => ?_) (fun c4 => ?_)
  · have h := (if_pos c4).symm.trans h
    refine am_iconst F (v := (0 : Int32)) dX2_actionAt_26 (by decide) ?_
    exact am_iret F hr h dX2_actionAt_27
  · have h := (if_neg c4).symm.trans h
    refine am_aload_n F 1 dX2_actionAt_15 rfl rfl ?_
    refine gf_X2_9 F y0 dX2_actionAt_16 ?_
    refine am_iload_n F 0 dX2_actionAt_19 rfl rfl ?_
    obtain ⟨v3, M2, h1, h⟩ := am_bE h
    refine am_callSNi F [.ref (z + (t0 + 1)), .int (a1 - (am_g M t0 2))] cw_X2_43  (c_X9_at l D E z (t0 + 1) 30 (lyf_2_actions y0) (a1 - (am_g M t0 2)) M v3 M2 h1) yn_X9_at rfl ⟨Nat.le_of_ble_eq_true rfl, Nat.le_of_ble_eq_true rfl⟩ rfl rfl (Nat.le_of_ble_eq_true rfl) ⟨Nat.zero_le _, Nat.zero_le _⟩ dX2_actionAt_20 rfl ?_
    refine am_goto F (tgt := 27) dX2_actionAt_23 (by decide) ?_
    exact am_iret F hr h dX2_actionAt_27
/-! AisleScheduler$Finder.barRides(II)V -/
abbrev rm_X0_barRides : Room := { frames := 2, cells := 0, slots := 0, locals := 47 }
theorem yn_X0_barRides : am_yn yX0_barRides 2 := ⟨⟨by decide +kernel, by decide +kernel⟩, by decide +kernel⟩
def g_X0_barRides_L10 (a1 : Int32) (a2 : Int32) : Nat → Int32 → am_M → Option ((Unit) × am_M)
  | 0, _, _ => none
  | n + 1, a3, M => (if a1 < a3 then (some ((), M)) else (am_b (g_X9_join 163 210 ((a3 * (7 : Int32)) + a2) (1099511627775 : Int64) M) (fun _ M2 => (g_X0_barRides_L10 a1 a2 n (a3 + (1 : Int32)) M2))))
set_option maxHeartbeats 4000000 in
set_option maxRecDepth 100000 in
theorem cl_X0_barRides_L10 {l : Launch} {p : Program} {e : Env} {s : State} {m : MethodId} {args : Array Value} {below : List Frame} {meth : Method} {c : Code} {Q : State → Prop} {D : va_G} {E : Nat → ClassId} {z : Nat} (F : am_F p s m args meth c cX0_barRides 4 RX0 D E z) (a1 : Int32) (a2 : Int32) : ∀ (n : Nat) (a3 : Int32) (M : am_M) (x : Unit) (M1 : am_M), g_X0_barRides_L10 a1 a2 n a3 M = some (x, M1) → (am_W p l e rm_X0_barRides s m args below meth c Q 4 D E z 0 0 M1 37 [] []) → am_W p l e rm_X0_barRides s m args below meth c Q 4 D E z 0 0 M 10 [(0, .ref (z + 161)), (1, .int a1), (2, .int a2), (3, .int a3)] [] := by
  intro n
  induction n with
  | zero => intro a3 M x M1 h K; cases h
  | succ n ih =>
    intro a3 M x M1 h K
    rw [g_X0_barRides_L10] at h
    refine am_iload_n F 3 dX0_barRides_10 rfl rfl ?_
    refine am_iload_n F 1 dX0_barRides_11 rfl rfl ?_
    refine am_icmp_gt F (tgt := 37) dX0_barRides_12 (by decide) (fun c3 => ?_) (fun c3 => ?_)
    · have h := (if_pos c3).symm.trans h
      cases h
      exact am_sub (lv' := []) [] rfl (K)
    · have h := (if_neg c3).symm.trans h
      refine am_aload_n F 0 dX0_barRides_15 rfl rfl ?_
      refine gf_X0_15 F lyk_161 dX0_barRides_16 ?_
      refine am_iload_n F 3 dX0_barRides_19 rfl rfl ?_
      refine am_bipush F (v := (7 : Int32)) dX0_barRides_20 (by decide) ?_
      refine am_imul F dX0_barRides_22 ?_
      refine am_iload_n F 2 dX0_barRides_23 rfl rfl ?_
      refine am_iadd F dX0_barRides_24 ?_
      refine am_ldc2 F (v := (1099511627775 : Int64)) dX0_barRides_25 wd_465 ?_
      obtain ⟨_, M2, h1, h⟩ := am_bE h
      refine am_callSNv F [.ref (z + 163), .int ((a3 * (7 : Int32)) + a2), .long (1099511627775 : Int64)] cw_X0_76  (c_X9_join l D E z 163 210 lyk_163 ((a3 * (7 : Int32)) + a2) (1099511627775 : Int64) M M2 h1) yn_X9_join rfl ⟨Nat.le_of_ble_eq_true rfl, Nat.le_of_ble_eq_true rfl⟩ rfl rfl (Nat.le_of_ble_eq_true rfl) ⟨Nat.zero_le _, Nat.zero_le _⟩ dX0_barRides_28 rfl ?_
      refine am_iinc F [(3, .int (a3 + (1 : Int32))), (0, .ref (z + 161)), (1, .int a1), (2, .int a2)] 3 dX0_barRides_31 (by decide) rfl rfl rfl ?_
      refine am_goto F (tgt := 10) dX0_barRides_34 (by decide) ?_
      exact am_sub (lv' := [(0, .ref (z + 161)), (1, .int a1), (2, .int a2), (3, .int (a3 + (1 : Int32)))]) [1, 2, 3, 0] rfl (ih (a3 + (1 : Int32)) M2 _ _ h K)
def g_X0_barRides (a1 : Int32) (a2 : Int32) (M : am_M) : Option (Unit × am_M) := (am_b (g_X0_barRides_L10 a1 a2 am_fu (if (0 : Int32) < ((a1 - (3 : Int32)) + (1 : Int32)) then ((a1 - (3 : Int32)) + (1 : Int32)) else (0 : Int32)) M) (fun x4 M5 => (some ((), M5))))
set_option maxHeartbeats 4000000 in
set_option maxRecDepth 100000 in
theorem c_X0_barRides (l : Launch) (D : va_G) (E : Nat → ClassId) (z : Nat) (a1 : Int32) (a2 : Int32) (M : am_M)  (M1 : am_M) (h : g_X0_barRides a1 a2 M = some ((), M1)) : am_Mv l yX0_barRides cX0_barRides 4 none rm_X0_barRides D E z [.ref (z + 161), .int a1, .int a2] M M1 := by
  unfold g_X0_barRides at h
  refine am_of (own := RX0) (by decide +kernel) rfl (by exact Nat.le_of_ble_eq_true rfl) ?_
  intro p e s m args below meth c F hr
  show am_W p l e rm_X0_barRides s m args below meth c _ 4 D E z 0 0 M 0 [(0, .ref (z + 161)), (1, .int a1), (2, .int a2)] []
  refine am_iconst F (v := (0 : Int32)) dX0_barRides_0 (by decide) ?_
  refine am_iload_n F 1 dX0_barRides_1 rfl rfl ?_
  refine am_iconst F (v := (3 : Int32)) dX0_barRides_2 (by decide) ?_
  refine am_isub F dX0_barRides_3 ?_
  refine am_iconst F (v := (1 : Int32)) dX0_barRides_4 (by decide) ?_
  refine am_iadd F dX0_barRides_5 ?_
  refine am_max F dX0_barRides_6 wd_464 (Nat.le_of_ble_eq_true rfl) (Nat.le_of_ble_eq_true rfl) (Nat.le_of_ble_eq_true rfl) (Nat.le_of_ble_eq_true rfl) ?_
  refine am_istore_n F [(3, .int (if (0 : Int32) < ((a1 - (3 : Int32)) + (1 : Int32)) then ((a1 - (3 : Int32)) + (1 : Int32)) else (0 : Int32))), (0, .ref (z + 161)), (1, .int a1), (2, .int a2)] dX0_barRides_9 rfl (by decide) rfl ?_
  obtain ⟨x4, M5, h6, h⟩ := am_bE h
  refine am_sub (lv' := [(0, .ref (z + 161)), (1, .int a1), (2, .int a2), (3, .int (if (0 : Int32) < ((a1 - (3 : Int32)) + (1 : Int32)) then ((a1 - (3 : Int32)) + (1 : Int32)) else (0 : Int32)))]) [1, 2, 3, 0] rfl (cl_X0_barRides_L10 F a1 a2 am_fu (if (0 : Int32) < ((a1 - (3 : Int32)) + (1 : Int32)) then ((a1 - (3 : Int32)) + (1 : Int32)) else (0 : Int32)) M x4 M5 h6 ?_)
  exact am_vret F hr h dX0_barRides_37
/-! AisleScheduler$Finder.avoid(LAisleScheduler$Plan;I)V -/
abbrev rm_X0_avoid : Room := { frames := 3, cells := 0, slots := 0, locals := 70 }
theorem yn_X0_avoid : am_yn yX0_avoid 2 := ⟨⟨by decide +kernel, by decide +kernel⟩, by decide +kernel⟩
def g_X0_avoid_J73 (rc : Int32 → am_M → Option ((Unit) × am_M)) (t1 : Nat) (a2 : Int32) (a3 : Int32) (as0 : Int32) (M : am_M) : Option ((Unit) × am_M) := (am_b (g_X2_placeAt t1 ((a2 + a3) + (1 : Int32)) M) (fun v14 M13 => (am_b (g_X9_bit v14 M13) (fun v17 M16 => (am_b (g_X9_join 163 210 ((a3 * (7 : Int32)) + as0) v17 M16) (fun _ M19 => (rc (a3 + (1 : Int32)) M19)))))))
set_option maxHeartbeats 4000000 in
set_option maxRecDepth 100000 in
theorem cj_X0_avoid_J73 {l : Launch} {p : Program} {e : Env} {s : State} {m : MethodId} {args : Array Value} {below : List Frame} {meth : Method} {c : Code} {Q : State → Prop} {D : va_G} {E : Nat → ClassId} {z : Nat} (F : am_F p s m args meth c cX0_avoid 6 RX0 D E z) (rc : Int32 → am_M → Option ((Unit) × am_M)) (t1 : Nat) (y1 : am_ly t1 = (2, 0)) (a2 : Int32) (a3 : Int32) (as0 : Int32) (M : am_M) (x : Unit) (M1 : am_M) (h : g_X0_avoid_J73 rc t1 a2 a3 as0 M = some (x, M1)) (HR : ∀ (b3 : Int32) (M2 : am_M), rc b3 M2 = some (x, M1) → am_W p l e rm_X0_avoid s m args below meth c Q 6 D E z 0 0 M2 2 [(0, .ref (z + 161)), (1, .ref (z + t1)), (2, .int a2), (3, .int b3)] []) (K : am_W p l e rm_X0_avoid s m args below meth c Q 6 D E z 0 0 M1 107 [] []) : am_W p l e rm_X0_avoid s m args below meth c Q 6 D E z 0 0 M 73 [(0, .ref (z + 161)), (1, .ref (z + t1)), (2, .int a2), (3, .int a3)] [.int as0] := by
  unfold g_X0_avoid_J73 at h
  refine am_istore F [(5, .int as0), (0, .ref (z + 161)), (1, .ref (z + t1)), (2, .int a2), (3, .int a3)] dX0_avoid_73 (by decide) rfl ?_
  refine am_aload_n F 1 dX0_avoid_75 rfl rfl ?_
  refine gf_X0_15 F lyk_161 dX0_avoid_76 ?_
  refine am_iload_n F 4 dX0_avoid_79 rfl rfl ?_
  refine am_bipush F (v := (7 : Int32)) dX0_avoid_80 (by decide) ?_
  refine am_imul F dX0_avoid_82 ?_
  refine am_iload F 0 dX0_avoid_83 rfl ?_
  refine am_iadd F dX0_avoid_85 ?_
  refine am_aload_n F 2 dX0_avoid_86 rfl rfl ?_
  refine am_iload_n F 3 dX0_avoid_87 rfl rfl ?_
  refine am_iload_n F 4 dX0_avoid_88 rfl rfl ?_
  refine am_iadd F dX0_avoid_89 ?_
  refine am_iconst F (v := (1 : Int32)) dX0_avoid_90 (by decide) ?_
  refine am_iadd F dX0_avoid_91 ?_
  obtain ⟨v14, M13, h12, h⟩ := am_bE h
  refine am_callVi F [.int ((a2 + a3) + (1 : Int32))] y1 (by decide) rfl cw_X0_45 (c_X2_placeAt l D E z t1 y1 ((a2 + a3) + (1 : Int32)) M v14 M13 h12) yn_X2_placeAt rfl ⟨Nat.le_of_ble_eq_true rfl, Nat.le_of_ble_eq_true rfl⟩ rfl rfl (Nat.le_of_ble_eq_true rfl) ⟨Nat.zero_le _, Nat.zero_le _⟩ dX0_avoid_92 rfl ?_
  obtain ⟨v17, M16, h15, h⟩ := am_bE h
  refine am_callSNl F [.int v14] cw_X0_72  (c_X9_bit l D E z v14 M13 v17 M16 h15) yn_X9_bit rfl ⟨Nat.le_of_ble_eq_true rfl, Nat.le_of_ble_eq_true rfl⟩ rfl rfl (Nat.le_of_ble_eq_true rfl) ⟨Nat.zero_le _, Nat.zero_le _⟩ dX0_avoid_95 rfl ?_
  obtain ⟨_, M19, h18, h⟩ := am_bE h
  refine am_callSNv F [.ref (z + 163), .int ((a3 * (7 : Int32)) + as0), .long v17] cw_X0_76  (c_X9_join l D E z 163 210 lyk_163 ((a3 * (7 : Int32)) + as0) v17 M16 M19 h18) yn_X9_join rfl ⟨Nat.le_of_ble_eq_true rfl, Nat.le_of_ble_eq_true rfl⟩ rfl rfl (Nat.le_of_ble_eq_true rfl) ⟨Nat.zero_le _, Nat.zero_le _⟩ dX0_avoid_98 rfl ?_
  refine am_iinc F [(3, .int (a3 + (1 : Int32))), (5, .int as0), (0, .ref (z + 161)), (1, .ref (z + t1)), (2, .int a2)] 4 dX0_avoid_101 (by decide) rfl rfl rfl ?_
  refine am_goto F (tgt := 2) dX0_avoid_104 (by decide) ?_
  exact am_sub (lv' := [(0, .ref (z + 161)), (1, .ref (z + t1)), (2, .int a2), (3, .int (a3 + (1 : Int32)))]) [2, 3, 4, 0] rfl (HR (a3 + (1 : Int32)) M19 h)
def g_X0_avoid_L2 (t1 : Nat) (a2 : Int32) : Nat → Int32 → am_M → Option ((Unit) × am_M)
  | 0, _, _ => none
  | n + 1, a3, M => (if (30 : Int32) < a3 then (some ((), M)) else (am_b (g_X2_placeAt t1 (a2 + a3) M) (fun v3 M2 => (am_b (g_X9_bit v3 M2) (fun v6 M5 => (am_b (g_X9_join 162 31 a3 v6 M5) (fun _ M8 => (am_b (g_X2_actionAt t1 (a2 + a3) M8) (fun v11 M10 => (if v11 < (5 : Int32) then (if v11 = (0 : Int32) then (g_X0_avoid_L2 t1 a2 n (a3 + (1 : Int32)) M10) else (if v11 < (3 : Int32) then (g_X0_avoid_J73 (g_X0_avoid_L2 t1 a2 n) t1 a2 a3 (v11 + (2 : Int32)) M10) else (g_X0_avoid_J73 (g_X0_avoid_L2 t1 a2 n) t1 a2 a3 (v11 - (2 : Int32)) M10))) else (am_b (g_X0_barRides a3 v11 M10) (fun _ M23 => (g_X0_avoid_L2 t1 a2 n (a3 + (1 : Int32)) M23)))))))))))))
set_option maxHeartbeats 4000000 in
set_option maxRecDepth 100000 in
theorem cl_X0_avoid_L2 {l : Launch} {p : Program} {e : Env} {s : State} {m : MethodId} {args : Array Value} {below : List Frame} {meth : Method} {c : Code} {Q : State → Prop} {D : va_G} {E : Nat → ClassId} {z : Nat} (F : am_F p s m args meth c cX0_avoid 6 RX0 D E z) (t1 : Nat) (y1 : am_ly t1 = (2, 0)) (a2 : Int32) : ∀ (n : Nat) (a3 : Int32) (M : am_M) (x : Unit) (M1 : am_M), g_X0_avoid_L2 t1 a2 n a3 M = some (x, M1) → (am_W p l e rm_X0_avoid s m args below meth c Q 6 D E z 0 0 M1 107 [] []) → am_W p l e rm_X0_avoid s m args below meth c Q 6 D E z 0 0 M 2 [(0, .ref (z + 161)), (1, .ref (z + t1)), (2, .int a2), (3, .int a3)] [] := by
  intro n
  induction n with
  | zero => intro a3 M x M1 h K; cases h
  | succ n ih =>
    intro a3 M x M1 h K
    rw [g_X0_avoid_L2] at h
    refine am_iload_n F 3 dX0_avoid_2 rfl rfl ?_
    refine am_bipush F (v := (30 : Int32)) dX0_avoid_3 (by decide) ?_
    refine am_icmp_gt F (tgt := 107) dX0_avoid_5 (by decide) (fun c25 => ?_) (fun c25 => ?_)
    · have h := (if_pos c25).symm.trans h
      cases h
      exact am_sub (lv' := []) [] rfl (K)
    · have h := (if_neg c25).symm.trans h
      refine am_aload_n F 0 dX0_avoid_8 rfl rfl ?_
      refine gf_X0_9 F lyk_161 dX0_avoid_9 ?_
      refine am_iload_n F 3 dX0_avoid_12 rfl rfl ?_
      refine am_aload_n F 1 dX0_avoid_13 rfl rfl ?_
      refine am_iload_n F 2 dX0_avoid_14 rfl rfl ?_
      refine am_iload_n F 3 dX0_avoid_15 rfl rfl ?_
      refine am_iadd F dX0_avoid_16 ?_
      obtain ⟨v3, M2, h1, h⟩ := am_bE h
      refine am_callVi F [.int (a2 + a3)] y1 (by decide) rfl cw_X0_45 (c_X2_placeAt l D E z t1 y1 (a2 + a3) M v3 M2 h1) yn_X2_placeAt rfl ⟨Nat.le_of_ble_eq_true rfl, Nat.le_of_ble_eq_true rfl⟩ rfl rfl (Nat.le_of_ble_eq_true rfl) ⟨Nat.zero_le _, Nat.zero_le _⟩ dX0_avoid_17 rfl ?_
      obtain ⟨v6, M5, h4, h⟩ := am_bE h
      refine am_callSNl F [.int v3] cw_X0_72  (c_X9_bit l D E z v3 M2 v6 M5 h4) yn_X9_bit rfl ⟨Nat.le_of_ble_eq_true rfl, Nat.le_of_ble_eq_true rfl⟩ rfl rfl (Nat.le_of_ble_eq_true rfl) ⟨Nat.zero_le _, Nat.zero_le _⟩ dX0_avoid_20 rfl ?_
      obtain ⟨_, M8, h7, h⟩ := am_bE h
      refine am_callSNv F [.ref (z + 162), .int a3, .long v6] cw_X0_76  (c_X9_join l D E z 162 31 lyk_162 a3 v6 M5 M8 h7) yn_X9_join rfl ⟨Nat.le_of_ble_eq_true rfl, Nat.le_of_ble_eq_true rfl⟩ rfl rfl (Nat.le_of_ble_eq_true rfl) ⟨Nat.zero_le _, Nat.zero_le _⟩ dX0_avoid_23 rfl ?_
      refine am_aload_n F 1 dX0_avoid_26 rfl rfl ?_
      refine am_iload_n F 2 dX0_avoid_27 rfl rfl ?_
      refine am_iload_n F 3 dX0_avoid_28 rfl rfl ?_
      refine am_iadd F dX0_avoid_29 ?_
      obtain ⟨v11, M10, h9, h⟩ := am_bE h
      refine am_callVi F [.int (a2 + a3)] y1 (by decide) rfl cw_X0_80 (c_X2_actionAt l D E z t1 y1 (a2 + a3) M8 v11 M10 h9) yn_X2_actionAt rfl ⟨Nat.le_of_ble_eq_true rfl, Nat.le_of_ble_eq_true rfl⟩ rfl rfl (Nat.le_of_ble_eq_true rfl) ⟨Nat.zero_le _, Nat.zero_le _⟩ dX0_avoid_30 rfl ?_
      refine am_istore F [(4, .int v11), (0, .ref (z + 161)), (1, .ref (z + t1)), (2, .int a2), (3, .int a3)] dX0_avoid_33 (by decide) rfl ?_
      refine am_iload F 0 dX0_avoid_35 rfl ?_
      refine am_iconst F (v := (5 : Int32)) dX0_avoid_37 (by decide) ?_
      refine am_icmp_lt F (tgt := 51) dX0_avoid_38 (by decide) (fun c24 => ?_) (fun c24 => ?_)
      · have h := (if_pos c24).symm.trans h
        refine am_iload F 0 dX0_avoid_51 rfl ?_
        refine am_if_eq F (tgt := 101) dX0_avoid_53 (by decide) (fun c21 => ?_) (fun c21 => ?_)
        · have h := (if_pos c21).symm.trans h
          refine am_iinc F [(3, .int (a3 + (1 : Int32))), (4, .int v11), (0, .ref (z + 161)), (1, .ref (z + t1)), (2, .int a2)] 4 dX0_avoid_101 (by decide) rfl rfl rfl ?_
          refine am_goto F (tgt := 2) dX0_avoid_104 (by decide) ?_
          exact am_sub (lv' := [(0, .ref (z + 161)), (1, .ref (z + t1)), (2, .int a2), (3, .int (a3 + (1 : Int32)))]) [2, 3, 4, 0] rfl (ih (a3 + (1 : Int32)) M10 _ _ h K)
        · have h := (if_neg c21).symm.trans h
          refine am_iload F 0 dX0_avoid_56 rfl ?_
          refine am_iconst F (v := (3 : Int32)) dX0_avoid_58 (by decide) ?_
          refine am_icmp_lt F (tgt := 69) dX0_avoid_59 (by decide) (fun c20 => ?_) (fun c20 => ?_)
          · have h := (if_pos c20).symm.trans h
            refine am_iload F 0 dX0_avoid_69 rfl ?_
            refine am_iconst F (v := (2 : Int32)) dX0_avoid_71 (by decide) ?_
            refine am_iadd F dX0_avoid_72 ?_
            exact am_sub (lv' := [(0, .ref (z + 161)), (1, .ref (z + t1)), (2, .int a2), (3, .int a3)]) [1, 2, 3, 4] rfl (cj_X0_avoid_J73 F (g_X0_avoid_L2 t1 a2 n) t1 y1 a2 a3 (v11 + (2 : Int32)) M10 _ _ h (fun b3 M2 h2 => ih b3 M2 _ _ h2 K) K)
          · have h := (if_neg c20).symm.trans h
            refine am_iload F 0 dX0_avoid_62 rfl ?_
            refine am_iconst F (v := (2 : Int32)) dX0_avoid_64 (by decide) ?_
            refine am_isub F dX0_avoid_65 ?_
            refine am_goto F (tgt := 73) dX0_avoid_66 (by decide) ?_
            exact am_sub (lv' := [(0, .ref (z + 161)), (1, .ref (z + t1)), (2, .int a2), (3, .int a3)]) [1, 2, 3, 4] rfl (cj_X0_avoid_J73 F (g_X0_avoid_L2 t1 a2 n) t1 y1 a2 a3 (v11 - (2 : Int32)) M10 _ _ h (fun b3 M2 h2 => ih b3 M2 _ _ h2 K) K)
      · have h := (if_neg c24).symm.trans h
        refine am_aload_n F 1 dX0_avoid_41 rfl rfl ?_
        refine am_iload_n F 4 dX0_avoid_42 rfl rfl ?_
        refine am_iload F 0 dX0_avoid_43 rfl ?_
        obtain ⟨_, M23, h22, h⟩ := am_bE h
        refine am_callVv F [.int a3, .int v11] lyk_161 (by decide) rfl cw_X0_83 (c_X0_barRides l D E z a3 v11 M10 M23 h22) yn_X0_barRides rfl ⟨Nat.le_of_ble_eq_true rfl, Nat.le_of_ble_eq_true rfl⟩ rfl rfl (Nat.le_of_ble_eq_true rfl) ⟨Nat.zero_le _, Nat.zero_le _⟩ dX0_avoid_45 rfl ?_
        refine am_goto F (tgt := 101) dX0_avoid_48 (by decide) ?_
        refine am_iinc F [(3, .int (a3 + (1 : Int32))), (4, .int v11), (0, .ref (z + 161)), (1, .ref (z + t1)), (2, .int a2)] 4 dX0_avoid_101 (by decide) rfl rfl rfl ?_
        refine am_goto F (tgt := 2) dX0_avoid_104 (by decide) ?_
        exact am_sub (lv' := [(0, .ref (z + 161)), (1, .ref (z + t1)), (2, .int a2), (3, .int (a3 + (1 : Int32)))]) [2, 3, 4, 0] rfl (ih (a3 + (1 : Int32)) M23 _ _ h K)
def g_X0_avoid (t1 : Nat) (a2 : Int32) (M : am_M) : Option (Unit × am_M) := (am_b (g_X0_avoid_L2 t1 a2 am_fu (0 : Int32) M) (fun x26 M27 => (some ((), M27))))
set_option maxHeartbeats 4000000 in
set_option maxRecDepth 100000 in
theorem c_X0_avoid (l : Launch) (D : va_G) (E : Nat → ClassId) (z : Nat) (t1 : Nat) (y1 : am_ly t1 = (2, 0)) (a2 : Int32) (M : am_M)  (M1 : am_M) (h : g_X0_avoid t1 a2 M = some ((), M1)) : am_Mv l yX0_avoid cX0_avoid 6 none rm_X0_avoid D E z [.ref (z + 161), .ref (z + t1), .int a2] M M1 := by
  unfold g_X0_avoid at h
  refine am_of (own := RX0) (by decide +kernel) rfl (by exact Nat.le_of_ble_eq_true rfl) ?_
  intro p e s m args below meth c F hr
  show am_W p l e rm_X0_avoid s m args below meth c _ 6 D E z 0 0 M 0 [(0, .ref (z + 161)), (1, .ref (z + t1)), (2, .int a2)] []
  refine am_iconst F (v := (0 : Int32)) dX0_avoid_0 (by decide) ?_
  refine am_istore_n F [(3, .int (0 : Int32)), (0, .ref (z + 161)), (1, .ref (z + t1)), (2, .int a2)] dX0_avoid_1 rfl (by decide) rfl ?_
  obtain ⟨x26, M27, h28, h⟩ := am_bE h
  refine am_sub (lv' := [(0, .ref (z + 161)), (1, .ref (z + t1)), (2, .int a2), (3, .int (0 : Int32))]) [1, 2, 3, 0] rfl (cl_X0_avoid_L2 F t1 y1 a2 am_fu (0 : Int32) M x26 M27 h28 ?_)
  exact am_vret F hr h dX0_avoid_107
/-! AisleScheduler$Finder.begin(LAisleScheduler$Plan;LAisleScheduler$World;II)V -/
abbrev rm_X0_begin : Room := { frames := 4, cells := 0, slots := 0, locals := 95 }
theorem yn_X0_begin : am_yn yX0_begin 4 := ⟨⟨by decide +kernel, by decide +kernel⟩, by decide +kernel⟩
def g_X0_begin_L48 (t2 : Nat) (a3 : Int32) (a4 : Int32) : Nat → Int32 → am_M → Option ((Unit) × am_M)
  | 0, _, _ => none
  | n + 1, a5, M => (if (am_g M t2 2) ≤ a5 then (some ((), M)) else (if a5 = a3 then (g_X0_begin_L48 t2 a3 a4 n (a5 + (1 : Int32)) M) else (if a5 = a4 then (g_X0_begin_L48 t2 a3 a4 n (a5 + (1 : Int32)) M) else (am_b (g_X8_robotOf t2 a5 M) (fun v18 M17 => (am_b (g_X0_avoid (v18 + 1) (am_g M17 t2 4) M17) (fun _ M20 => (g_X0_begin_L48 t2 a3 a4 n (a5 + (1 : Int32)) M20))))))))
set_option maxHeartbeats 4000000 in
set_option maxRecDepth 100000 in
theorem cl_X0_begin_L48 {l : Launch} {p : Program} {e : Env} {s : State} {m : MethodId} {args : Array Value} {below : List Frame} {meth : Method} {c : Code} {Q : State → Prop} {D : va_G} {E : Nat → ClassId} {z : Nat} (F : am_F p s m args meth c cX0_begin 6 RX0 D E z) (t2 : Nat) (y2 : am_ly t2 = (8, 0)) (a3 : Int32) (a4 : Int32) : ∀ (n : Nat) (a5 : Int32) (M : am_M) (x : Unit) (M1 : am_M), g_X0_begin_L48 t2 a3 a4 n a5 M = some (x, M1) → (am_W p l e rm_X0_begin s m args below meth c Q 6 D E z 0 0 M1 93 [] []) → am_W p l e rm_X0_begin s m args below meth c Q 6 D E z 0 0 M 48 [(0, .ref (z + 161)), (2, .ref (z + t2)), (3, .int a3), (4, .int a4), (5, .int a5)] [] := by
  intro n
  induction n with
  | zero => intro a5 M x M1 h K; cases h
  | succ n ih =>
    intro a5 M x M1 h K
    rw [g_X0_begin_L48] at h
    refine am_iload F 4 dX0_begin_48 rfl ?_
    refine am_aload_n F 1 dX0_begin_50 rfl rfl ?_
    refine gf_X0_65 F y2 dX0_begin_51 ?_
    refine am_icmp_ge F (tgt := 93) dX0_begin_54 (by decide) (fun c23 => ?_) (fun c23 => ?_)
    · have h := (if_pos c23).symm.trans h
      cases h
      exact am_sub (lv' := []) [] rfl (K)
    · have h := (if_neg c23).symm.trans h
      refine am_iload F 4 dX0_begin_57 rfl ?_
      refine am_iload_n F 2 dX0_begin_59 rfl rfl ?_
      refine am_icmp_eq F (tgt := 87) dX0_begin_60 (by decide) (fun c22 => ?_) (fun c22 => ?_)
      · have h := (if_pos c22).symm.trans h
        refine am_iinc F [(5, .int (a5 + (1 : Int32))), (0, .ref (z + 161)), (2, .ref (z + t2)), (3, .int a3), (4, .int a4)] 4 dX0_begin_87 (by decide) rfl rfl rfl ?_
        refine am_goto F (tgt := 48) dX0_begin_90 (by decide) ?_
        exact am_sub (lv' := [(0, .ref (z + 161)), (2, .ref (z + t2)), (3, .int a3), (4, .int a4), (5, .int (a5 + (1 : Int32)))]) [1, 2, 3, 4, 0] rfl (ih (a5 + (1 : Int32)) M _ _ h K)
      · have h := (if_neg c22).symm.trans h
        refine am_iload F 4 dX0_begin_63 rfl ?_
        refine am_iload F 3 dX0_begin_65 rfl ?_
        refine am_icmp_eq F (tgt := 87) dX0_begin_67 (by decide) (fun c21 => ?_) (fun c21 => ?_)
        · have h := (if_pos c21).symm.trans h
          refine am_iinc F [(5, .int (a5 + (1 : Int32))), (0, .ref (z + 161)), (2, .ref (z + t2)), (3, .int a3), (4, .int a4)] 4 dX0_begin_87 (by decide) rfl rfl rfl ?_
          refine am_goto F (tgt := 48) dX0_begin_90 (by decide) ?_
          exact am_sub (lv' := [(0, .ref (z + 161)), (2, .ref (z + t2)), (3, .int a3), (4, .int a4), (5, .int (a5 + (1 : Int32)))]) [1, 2, 3, 4, 0] rfl (ih (a5 + (1 : Int32)) M _ _ h K)
        · have h := (if_neg c21).symm.trans h
          refine am_aload_n F 0 dX0_begin_70 rfl rfl ?_
          refine am_aload_n F 1 dX0_begin_71 rfl rfl ?_
          refine am_iload F 4 dX0_begin_72 rfl ?_
          obtain ⟨v18, M17, h16, h⟩ := am_bE h
          refine am_callVr F [.int a5] y2 (by decide) rfl cw_X0_29 (c_X8_robotOf l D E z t2 y2 a5 M v18 M17 h16) yn_X8_robotOf rfl ⟨Nat.le_of_ble_eq_true rfl, Nat.le_of_ble_eq_true rfl⟩ rfl rfl (Nat.le_of_ble_eq_true rfl) ⟨Nat.zero_le _, Nat.zero_le _⟩ dX0_begin_74 rfl ?_
          refine gf_X0_35 F (q_X8_robotOf t2 y2 a5 M v18 M17 h16) dX0_begin_77 ?_
          refine am_aload_n F 1 dX0_begin_80 rfl rfl ?_
          refine gf_X0_41 F y2 dX0_begin_81 ?_
          obtain ⟨_, M20, h19, h⟩ := am_bE h
          refine am_callVv F [.ref (z + (v18 + 1)), .int (am_g M17 t2 4)] lyk_161 (by decide) rfl cw_X0_68 (c_X0_avoid l D E z (v18 + 1) (lyf_4_plan (q_X8_robotOf t2 y2 a5 M v18 M17 h16)) (am_g M17 t2 4) M17 M20 h19) yn_X0_avoid rfl ⟨Nat.le_of_ble_eq_true rfl, Nat.le_of_ble_eq_true rfl⟩ rfl rfl (Nat.le_of_ble_eq_true rfl) ⟨Nat.zero_le _, Nat.zero_le _⟩ dX0_begin_84 rfl ?_
          refine am_iinc F [(5, .int (a5 + (1 : Int32))), (0, .ref (z + 161)), (2, .ref (z + t2)), (3, .int a3), (4, .int a4)] 4 dX0_begin_87 (by decide) rfl rfl rfl ?_
          refine am_goto F (tgt := 48) dX0_begin_90 (by decide) ?_
          exact am_sub (lv' := [(0, .ref (z + 161)), (2, .ref (z + t2)), (3, .int a3), (4, .int a4), (5, .int (a5 + (1 : Int32)))]) [1, 2, 3, 4, 0] rfl (ih (a5 + (1 : Int32)) M20 _ _ h K)
def g_X0_begin (t1 : Nat) (t2 : Nat) (a3 : Int32) (a4 : Int32) (M : am_M) : Option (Unit × am_M) := (am_b (g_X8_robotOf t2 a3 M) (fun v3 M2 => (am_b (g_X2_placeAt (v3 + 1) (am_g M2 t2 4) M2) (fun v6 M5 => (am_b (g_X2_restAt t1 v6 (am_g M5 t2 4) M5) (fun _ M8 => (am_b (g_X1_walls 2 M8) (fun v11 M10 => (am_b (g_X9_fillMasks 162 31 v11 M10) (fun _ M13 => (am_b (g_X9_fillMasks 163 210 (0 : Int64) M13) (fun _ M15 => (am_b (g_X0_begin_L48 t2 a3 a4 am_fu (0 : Int32) M15) (fun x24 M25 => (some ((), M25))))))))))))))))
set_option maxHeartbeats 4000000 in
set_option maxRecDepth 100000 in
theorem c_X0_begin (l : Launch) (D : va_G) (E : Nat → ClassId) (z : Nat) (t1 : Nat) (y1 : am_ly t1 = (2, 0)) (t2 : Nat) (y2 : am_ly t2 = (8, 0)) (a3 : Int32) (a4 : Int32) (M : am_M)  (M1 : am_M) (h : g_X0_begin t1 t2 a3 a4 M = some ((), M1)) : am_Mv l yX0_begin cX0_begin 6 none rm_X0_begin D E z [.ref (z + 161), .ref (z + t1), .ref (z + t2), .int a3, .int a4] M M1 := by
  unfold g_X0_begin at h
  refine am_of (own := RX0) (by decide +kernel) rfl (by exact Nat.le_of_ble_eq_true rfl) ?_
  intro p e s m args below meth c F hr
  show am_W p l e rm_X0_begin s m args below meth c _ 6 D E z 0 0 M 0 [(0, .ref (z + 161)), (1, .ref (z + t1)), (2, .ref (z + t2)), (3, .int a3), (4, .int a4)] []
  refine am_aload_n F 1 dX0_begin_0 rfl rfl ?_
  refine am_aload_n F 2 dX0_begin_1 rfl rfl ?_
  refine am_iload_n F 3 dX0_begin_2 rfl rfl ?_
  obtain ⟨v3, M2, h1, h⟩ := am_bE h
  refine am_callVr F [.int a3] y2 (by decide) rfl cw_X0_29 (c_X8_robotOf l D E z t2 y2 a3 M v3 M2 h1) yn_X8_robotOf rfl ⟨Nat.le_of_ble_eq_true rfl, Nat.le_of_ble_eq_true rfl⟩ rfl rfl (Nat.le_of_ble_eq_true rfl) ⟨Nat.zero_le _, Nat.zero_le _⟩ dX0_begin_3 rfl ?_
  refine gf_X0_35 F (q_X8_robotOf t2 y2 a3 M v3 M2 h1) dX0_begin_6 ?_
  refine am_aload_n F 2 dX0_begin_9 rfl rfl ?_
  refine gf_X0_41 F y2 dX0_begin_10 ?_
  obtain ⟨v6, M5, h4, h⟩ := am_bE h
  refine am_callVi F [.int (am_g M2 t2 4)] (lyf_4_plan (q_X8_robotOf t2 y2 a3 M v3 M2 h1)) (by decide) rfl cw_X0_45 (c_X2_placeAt l D E z (v3 + 1) (lyf_4_plan (q_X8_robotOf t2 y2 a3 M v3 M2 h1)) (am_g M2 t2 4) M2 v6 M5 h4) yn_X2_placeAt rfl ⟨Nat.le_of_ble_eq_true rfl, Nat.le_of_ble_eq_true rfl⟩ rfl rfl (Nat.le_of_ble_eq_true rfl) ⟨Nat.zero_le _, Nat.zero_le _⟩ dX0_begin_13 rfl ?_
  refine am_aload_n F 2 dX0_begin_16 rfl rfl ?_
  refine gf_X0_41 F y2 dX0_begin_17 ?_
  obtain ⟨_, M8, h7, h⟩ := am_bE h
  refine am_callVv F [.int v6, .int (am_g M5 t2 4)] y1 (by decide) rfl cw_X0_51 (c_X2_restAt l D E z t1 y1 v6 (am_g M5 t2 4) M5 M8 h7) yn_X2_restAt rfl ⟨Nat.le_of_ble_eq_true rfl, Nat.le_of_ble_eq_true rfl⟩ rfl rfl (Nat.le_of_ble_eq_true rfl) ⟨Nat.zero_le _, Nat.zero_le _⟩ dX0_begin_20 rfl ?_
  refine am_aload_n F 0 dX0_begin_23 rfl rfl ?_
  refine gf_X0_9 F lyk_161 dX0_begin_24 ?_
  refine am_aload_n F 0 dX0_begin_27 rfl rfl ?_
  refine gf_X0_25 F lyk_161 dX0_begin_28 ?_
  obtain ⟨v11, M10, h9, h⟩ := am_bE h
  refine am_callVl F [] lyk_2 (by decide) rfl cw_X0_55 (c_X1_walls l D E z 2 lyk_2 M8 v11 M10 h9) yn_X1_walls rfl ⟨Nat.le_of_ble_eq_true rfl, Nat.le_of_ble_eq_true rfl⟩ rfl rfl (Nat.le_of_ble_eq_true rfl) ⟨Nat.zero_le _, Nat.zero_le _⟩ dX0_begin_31 rfl ?_
  obtain ⟨_, M13, h12, h⟩ := am_bE h
  refine am_callSNv F [.ref (z + 162), .long v11] cw_X0_61  (c_X9_fillMasks l D E z 162 31 lyk_162 v11 M10 M13 h12) yn_X9_fillMasks rfl ⟨Nat.le_of_ble_eq_true rfl, Nat.le_of_ble_eq_true rfl⟩ rfl rfl (Nat.le_of_ble_eq_true rfl) ⟨Nat.zero_le _, Nat.zero_le _⟩ dX0_begin_34 rfl ?_
  refine am_aload_n F 0 dX0_begin_37 rfl rfl ?_
  refine gf_X0_15 F lyk_161 dX0_begin_38 ?_
  refine am_lconst F (v := (0 : Int64)) dX0_begin_41 (by decide) ?_
  obtain ⟨_, M15, h14, h⟩ := am_bE h
  refine am_callSNv F [.ref (z + 163), .long (0 : Int64)] cw_X0_61  (c_X9_fillMasks l D E z 163 210 lyk_163 (0 : Int64) M13 M15 h14) yn_X9_fillMasks rfl ⟨Nat.le_of_ble_eq_true rfl, Nat.le_of_ble_eq_true rfl⟩ rfl rfl (Nat.le_of_ble_eq_true rfl) ⟨Nat.zero_le _, Nat.zero_le _⟩ dX0_begin_42 rfl ?_
  refine am_iconst F (v := (0 : Int32)) dX0_begin_45 (by decide) ?_
  refine am_istore F [(5, .int (0 : Int32)), (0, .ref (z + 161)), (1, .ref (z + t1)), (2, .ref (z + t2)), (3, .int a3), (4, .int a4)] dX0_begin_46 (by decide) rfl ?_
  obtain ⟨x24, M25, h26, h⟩ := am_bE h
  refine am_sub (lv' := [(0, .ref (z + 161)), (2, .ref (z + t2)), (3, .int a3), (4, .int a4), (5, .int (0 : Int32))]) [1, 3, 4, 5, 0] rfl (cl_X0_begin_L48 F t2 y2 a3 a4 am_fu (0 : Int32) M15 x24 M25 h26 ?_)
  exact am_vret F hr h dX0_begin_93
/-! AisleScheduler.maskAt([JI)J -/
abbrev rm_X9_maskAt : Room := { frames := 1, cells := 0, slots := 0, locals := 24 }
theorem yn_X9_maskAt : am_yn yX9_maskAt 2 := ⟨⟨by decide +kernel, by decide +kernel⟩, by decide +kernel⟩
def g_X9_maskAt (t0 n0 : Nat) (a1 : Int32) (M : am_M) : Option (Int64 × am_M) := (if a1 < (0 : Int32) then (some ((0 : Int64), M)) else (if (Int32.ofNat n0) ≤ a1 then (some ((0 : Int64), M)) else (am_ci a1 n0 (some ((am_lg M t0 a1.toNatClampNeg), M)))))
set_option maxHeartbeats 4000000 in
set_option maxRecDepth 100000 in
theorem c_X9_maskAt (l : Launch) (D : va_G) (E : Nat → ClassId) (z : Nat) (t0 n0 : Nat) (y0 : am_ly t0 = (21, n0)) (a1 : Int32) (M : am_M) (r0 : Int64) (M1 : am_M) (h : g_X9_maskAt t0 n0 a1 M = some (r0, M1)) : am_Ml l yX9_maskAt cX9_maskAt 2 (some .long) rm_X9_maskAt D E z [.ref (z + t0), .int a1] M r0 M1 := by
  unfold g_X9_maskAt at h
  refine am_of (own := RX9) (by decide +kernel) rfl (by exact Nat.le_of_ble_eq_true rfl) ?_
  intro p e s m args below meth c F hr
  show am_W p l e rm_X9_maskAt s m args below meth c _ 2 D E z 0 0 M 0 [(0, .ref (z + t0)), (1, .int a1)] []
  refine am_iload_n F 1 dX9_maskAt_0 rfl rfl ?_
  refine am_if_lt F (tgt := 16) dX9_maskAt_1 (by decide) (fun c3 => ?_) (fun c3 => ?_)
  · have h := (if_pos c3).symm.trans h
    refine am_lconst F (v := (0 : Int64)) dX9_maskAt_16 (by decide) ?_
    exact am_lret F hr h dX9_maskAt_17
  · have h := (if_neg c3).symm.trans h
    refine am_iload_n F 1 dX9_maskAt_4 rfl rfl ?_
    refine am_aload_n F 0 dX9_maskAt_5 rfl rfl ?_
    refine am_alen F y0 (by decide) (by decide) (t0 := 1) rfl (v := (Int32.ofNat n0)) rfl dX9_maskAt_6 ?_
    refine am_icmp_ge F (tgt := 16) dX9_maskAt_7 (by decide) (fun c2 => ?_) (fun c2 => ?_)
    · have h := (if_pos c2).symm.trans h
      refine am_lconst F (v := (0 : Int64)) dX9_maskAt_16 (by decide) ?_
      exact am_lret F hr h dX9_maskAt_17
    · have h := (if_neg c2).symm.trans h
      refine am_aload_n F 0 dX9_maskAt_10 rfl rfl ?_
      refine am_iload_n F 1 dX9_maskAt_11 rfl rfl ?_
      obtain ⟨q1, h⟩ := am_ciE h
      refine am_lald F y0 q1 dX9_maskAt_12 ?_
      refine am_goto F (tgt := 17) dX9_maskAt_13 (by decide) ?_
      exact am_lret F hr h dX9_maskAt_17
/-! AisleScheduler$Finder.isClosed(II)Z -/
abbrev rm_X0_isClosed : Room := { frames := 2, cells := 0, slots := 0, locals := 45 }
theorem yn_X0_isClosed : am_yn yX0_isClosed 2 := ⟨⟨by decide +kernel, by decide +kernel⟩, by decide +kernel⟩
def g_X0_isClosed (a1 : Int32) (a2 : Int32) (M : am_M) : Option (Int32 × am_M) := (am_b (g_X9_maskAt 162 31 a2 M) (fun v3 M2 => (am_b (g_X9_bit a1 M2) (fun v6 M5 => (if (lg_cmp (v3 &&& v6) (0 : Int64)) = (0 : Int32) then (some ((0 : Int32), M5)) else (some ((1 : Int32), M5)))))))
set_option maxHeartbeats 4000000 in
set_option maxRecDepth 100000 in
theorem c_X0_isClosed (l : Launch) (D : va_G) (E : Nat → ClassId) (z : Nat) (a1 : Int32) (a2 : Int32) (M : am_M) (r0 : Int32) (M1 : am_M) (h : g_X0_isClosed a1 a2 M = some (r0, M1)) : am_Mi l yX0_isClosed cX0_isClosed 3 (some .boolean) rm_X0_isClosed D E z [.ref (z + 161), .int a1, .int a2] M r0 M1 := by
  unfold g_X0_isClosed at h
  refine am_of (own := RX0) (by decide +kernel) rfl (by exact Nat.le_of_ble_eq_true rfl) ?_
  intro p e s m args below meth c F hr
  show am_W p l e rm_X0_isClosed s m args below meth c _ 3 D E z 0 0 M 0 [(0, .ref (z + 161)), (1, .int a1), (2, .int a2)] []
  refine am_aload_n F 0 dX0_isClosed_0 rfl rfl ?_
  refine gf_X0_9 F lyk_161 dX0_isClosed_1 ?_
  refine am_iload_n F 2 dX0_isClosed_4 rfl rfl ?_
  obtain ⟨v3, M2, h1, h⟩ := am_bE h
  refine am_callSNl F [.ref (z + 162), .int a2] cw_X0_94  (c_X9_maskAt l D E z 162 31 lyk_162 a2 M v3 M2 h1) yn_X9_maskAt rfl ⟨Nat.le_of_ble_eq_true rfl, Nat.le_of_ble_eq_true rfl⟩ rfl rfl (Nat.le_of_ble_eq_true rfl) ⟨Nat.zero_le _, Nat.zero_le _⟩ dX0_isClosed_5 rfl ?_
  refine am_iload_n F 1 dX0_isClosed_8 rfl rfl ?_
  obtain ⟨v6, M5, h4, h⟩ := am_bE h
  refine am_callSNl F [.int a1] cw_X0_72  (c_X9_bit l D E z a1 M2 v6 M5 h4) yn_X9_bit rfl ⟨Nat.le_of_ble_eq_true rfl, Nat.le_of_ble_eq_true rfl⟩ rfl rfl (Nat.le_of_ble_eq_true rfl) ⟨Nat.zero_le _, Nat.zero_le _⟩ dX0_isClosed_9 rfl ?_
  refine am_land F dX0_isClosed_12 ?_
  refine am_lconst F (v := (0 : Int64)) dX0_isClosed_13 (by decide) ?_
  refine am_lcmp F dX0_isClosed_14 ?_
  refine am_if_eq F (tgt := 22) dX0_isClosed_15 (by decide) (fun c7 => ?_) (fun c7 => ?_)
  · have h := (if_pos c7).symm.trans h
    refine am_iconst F (v := (0 : Int32)) dX0_isClosed_22 (by decide) ?_
    exact am_zret F hr (by decide) h dX0_isClosed_23
  · have h := (if_neg c7).symm.trans h
    refine am_iconst F (v := (1 : Int32)) dX0_isClosed_18 (by decide) ?_
    refine am_goto F (tgt := 23) dX0_isClosed_19 (by decide) ?_
    exact am_zret F hr (by decide) h dX0_isClosed_23
/-! AisleScheduler$Plan.lastPlace()I -/
abbrev rm_X2_lastPlace : Room := { frames := 2, cells := 0, slots := 0, locals := 45 }
theorem yn_X2_lastPlace : am_yn yX2_lastPlace 0 := ⟨⟨by decide +kernel, by decide +kernel⟩, by decide +kernel⟩
def g_X2_lastPlace (t0 : Nat) (M : am_M) : Option (Int32 × am_M) := (am_b (g_X9_at (t0 + 2) 31 (am_g M t0 3) M) (fun v3 M2 => (some (v3, M2))))
set_option maxHeartbeats 4000000 in
set_option maxRecDepth 100000 in
theorem c_X2_lastPlace (l : Launch) (D : va_G) (E : Nat → ClassId) (z : Nat) (t0 : Nat) (y0 : am_ly t0 = (2, 0)) (M : am_M) (r0 : Int32) (M1 : am_M) (h : g_X2_lastPlace t0 M = some (r0, M1)) : am_Mi l yX2_lastPlace cX2_lastPlace 1 (some .int) rm_X2_lastPlace D E z [.ref (z + t0)] M r0 M1 := by
  unfold g_X2_lastPlace at h
  refine am_of (own := RX2) (by decide +kernel) rfl (by exact Nat.le_of_ble_eq_true rfl) ?_
  intro p e s m args below meth c F hr
  show am_W p l e rm_X2_lastPlace s m args below meth c _ 1 D E z 0 0 M 0 [(0, .ref (z + t0))] []
  refine am_aload_n F 0 dX2_lastPlace_0 rfl rfl ?_
  refine gf_X2_15 F y0 dX2_lastPlace_1 ?_
  refine am_aload_n F 0 dX2_lastPlace_4 rfl rfl ?_
  refine gf_X2_26 F y0 dX2_lastPlace_5 ?_
  obtain ⟨v3, M2, h1, h⟩ := am_bE h
  refine am_callSNi F [.ref (z + (t0 + 2)), .int (am_g M t0 3)] cw_X2_43  (c_X9_at l D E z (t0 + 2) 31 (lyf_2_places y0) (am_g M t0 3) M v3 M2 h1) yn_X9_at rfl ⟨Nat.le_of_ble_eq_true rfl, Nat.le_of_ble_eq_true rfl⟩ rfl rfl (Nat.le_of_ble_eq_true rfl) ⟨Nat.zero_le _, Nat.zero_le _⟩ dX2_lastPlace_8 rfl ?_
  exact am_iret F hr h dX2_lastPlace_11
/-! AisleScheduler.moved(JI)J -/
abbrev rm_X9_moved : Room := { frames := 1, cells := 0, slots := 0, locals := 24 }
theorem yn_X9_moved : am_yn yX9_moved 2 := ⟨⟨by decide +kernel, by decide +kernel⟩, by decide +kernel⟩
def g_X9_moved (a0 : Int64) (a2 : Int32) (M : am_M) : Option (Int64 × am_M) := (if a2 = (1 : Int32) then (some (((a0.toUInt64 >>> ((8 : Int32).toInt64.toUInt64 &&& Int64.toUInt64 63)).toInt64), M)) else (if a2 = (2 : Int32) then (some (((a0 &&& (-551911719041 : Int64)) <<< ((1 : Int32).toInt64 &&& 63)), M)) else (if a2 = (3 : Int32) then (some (((a0 <<< ((8 : Int32).toInt64 &&& 63)) &&& (1099511627775 : Int64)), M)) else (if a2 = (4 : Int32) then (some ((((a0 &&& (-4311810306 : Int64)).toUInt64 >>> ((1 : Int32).toInt64.toUInt64 &&& Int64.toUInt64 63)).toInt64), M)) else (some (a0, M))))))
set_option maxHeartbeats 4000000 in
set_option maxRecDepth 100000 in
theorem c_X9_moved (l : Launch) (D : va_G) (E : Nat → ClassId) (z : Nat) (a0 : Int64) (a2 : Int32) (M : am_M) (r0 : Int64) (M1 : am_M) (h : g_X9_moved a0 a2 M = some (r0, M1)) : am_Ml l yX9_moved cX9_moved 3 (some .long) rm_X9_moved D E z [.long a0, .int a2] M r0 M1 := by
  unfold g_X9_moved at h
  refine am_of (own := RX9) (by decide +kernel) rfl (by exact Nat.le_of_ble_eq_true rfl) ?_
  intro p e s m args below meth c F hr
  show am_W p l e rm_X9_moved s m args below meth c _ 3 D E z 0 0 M 0 [(0, .long a0), (2, .int a2)] []
  refine am_iload_n F 1 dX9_moved_0 rfl rfl ?_
  by_cases c1 : a2 = (1 : Int32)
  · have h := (if_pos c1).symm.trans h
    refine am_tabIn F 1 (tgt := 32) dX9_moved_1 (by rw [c1]; decide) rfl rfl (by decide) ?_
    refine am_lload_n F 0 dX9_moved_32 rfl rfl ?_
    refine am_bipush F (v := (8 : Int32)) dX9_moved_33 (by decide) ?_
    refine am_lushr F dX9_moved_35 ?_
    exact am_lret F hr h dX9_moved_36
  · have h := (if_neg c1).symm.trans h
    by_cases c2 : a2 = (2 : Int32)
    · have h := (if_pos c2).symm.trans h
      refine am_tabIn F 2 (tgt := 37) dX9_moved_1 (by rw [c2]; decide) rfl rfl (by decide) ?_
      refine am_lload_n F 0 dX9_moved_37 rfl rfl ?_
      refine am_ldc2 F (v := (-551911719041 : Int64)) dX9_moved_38 wd_489 ?_
      refine am_land F dX9_moved_41 ?_
      refine am_iconst F (v := (1 : Int32)) dX9_moved_42 (by decide) ?_
      refine am_lshl F dX9_moved_43 ?_
      exact am_lret F hr h dX9_moved_44
    · have h := (if_neg c2).symm.trans h
      by_cases c3 : a2 = (3 : Int32)
      · have h := (if_pos c3).symm.trans h
        refine am_tabIn F 3 (tgt := 45) dX9_moved_1 (by rw [c3]; decide) rfl rfl (by decide) ?_
        refine am_lload_n F 0 dX9_moved_45 rfl rfl ?_
        refine am_bipush F (v := (8 : Int32)) dX9_moved_46 (by decide) ?_
        refine am_lshl F dX9_moved_48 ?_
        refine am_ldc2 F (v := (1099511627775 : Int64)) dX9_moved_49 wd_490 ?_
        refine am_land F dX9_moved_52 ?_
        exact am_lret F hr h dX9_moved_53
      · have h := (if_neg c3).symm.trans h
        by_cases c4 : a2 = (4 : Int32)
        · have h := (if_pos c4).symm.trans h
          refine am_tabIn F 4 (tgt := 54) dX9_moved_1 (by rw [c4]; decide) rfl rfl (by decide) ?_
          refine am_lload_n F 0 dX9_moved_54 rfl rfl ?_
          refine am_ldc2 F (v := (-4311810306 : Int64)) dX9_moved_55 wd_491 ?_
          refine am_land F dX9_moved_58 ?_
          refine am_iconst F (v := (1 : Int32)) dX9_moved_59 (by decide) ?_
          refine am_lushr F dX9_moved_60 ?_
          exact am_lret F hr h dX9_moved_61
        · have h := (if_neg c4).symm.trans h
          have hsw := am_sw (x := a2) (lo := 1) (n := 4) (by decide) (by decide) (fun j hj => match j, hj with | 0, _ => c1 | 1, _ => c2 | 2, _ => c3 | 3, _ => c4)
          refine am_tabOut F (tgt := 62) dX9_moved_1 (hsw.imp_right (fun h9 => by omega)) (by decide) ?_
          refine am_lload_n F 0 dX9_moved_62 rfl rfl ?_
          exact am_lret F hr h dX9_moved_63
/-! AisleScheduler$Finder.spread(II)V -/
abbrev rm_X0_spread : Room := { frames := 2, cells := 0, slots := 0, locals := 47 }
theorem yn_X0_spread : am_yn yX0_spread 2 := ⟨⟨by decide +kernel, by decide +kernel⟩, by decide +kernel⟩
def g_X0_spread_L45 (a3 : Int32) (a4 : Int64) : Nat → Int64 → Int32 → am_M → Option ((Int64) × am_M)
  | 0, _, _, _ => none
  | n + 1, a6, a8, M => (if (4 : Int32) < a8 then (some (a6, M)) else (am_b (g_X9_maskAt 163 210 ((a3 * (7 : Int32)) + a8) M) (fun v13 M12 => (am_b (g_X9_moved (a4 &&& (v13 ^^^ (-1 : Int64))) a8 M12) (fun v16 M15 => (g_X0_spread_L45 a3 a4 n (a6 ||| v16) (a8 + (1 : Int32)) M15))))))
set_option maxHeartbeats 4000000 in
set_option maxRecDepth 100000 in
theorem cl_X0_spread_L45 {l : Launch} {p : Program} {e : Env} {s : State} {m : MethodId} {args : Array Value} {below : List Frame} {meth : Method} {c : Code} {Q : State → Prop} {D : va_G} {E : Nat → ClassId} {z : Nat} (F : am_F p s m args meth c cX0_spread 17 RX0 D E z) (a3 : Int32) (a4 : Int64) : ∀ (n : Nat) (a6 : Int64) (a8 : Int32) (M : am_M) (x : Int64) (M1 : am_M), g_X0_spread_L45 a3 a4 n a6 a8 M = some (x, M1) → (am_W p l e rm_X0_spread s m args below meth c Q 17 D E z 0 0 M1 88 [(0, .ref (z + 161)), (3, .int a3), (4, .long a4), (6, .long x)] []) → am_W p l e rm_X0_spread s m args below meth c Q 17 D E z 0 0 M 45 [(0, .ref (z + 161)), (3, .int a3), (4, .long a4), (6, .long a6), (8, .int a8)] [] := by
  intro n
  induction n with
  | zero => intro a6 a8 M x M1 h K; cases h
  | succ n ih =>
    intro a6 a8 M x M1 h K
    rw [g_X0_spread_L45] at h
    refine am_iload F 4 dX0_spread_45 rfl ?_
    refine am_iconst F (v := (4 : Int32)) dX0_spread_47 (by decide) ?_
    refine am_icmp_gt F (tgt := 88) dX0_spread_48 (by decide) (fun c17 => ?_) (fun c17 => ?_)
    · have h := (if_pos c17).symm.trans h
      cases h
      exact am_sub (lv' := [(0, .ref (z + 161)), (3, .int a3), (4, .long a4), (6, .long a6)]) [0, 1, 2, 3] rfl (K)
    · have h := (if_neg c17).symm.trans h
      refine am_lload F 3 dX0_spread_51 rfl ?_
      refine am_lload F 2 dX0_spread_53 rfl ?_
      refine am_aload_n F 0 dX0_spread_55 rfl rfl ?_
      refine gf_X0_15 F lyk_161 dX0_spread_56 ?_
      refine am_iload_n F 1 dX0_spread_59 rfl rfl ?_
      refine am_bipush F (v := (7 : Int32)) dX0_spread_60 (by decide) ?_
      refine am_imul F dX0_spread_62 ?_
      refine am_iload F 4 dX0_spread_63 rfl ?_
      refine am_iadd F dX0_spread_65 ?_
      obtain ⟨v13, M12, h11, h⟩ := am_bE h
      refine am_callSNl F [.ref (z + 163), .int ((a3 * (7 : Int32)) + a8)] cw_X0_94  (c_X9_maskAt l D E z 163 210 lyk_163 ((a3 * (7 : Int32)) + a8) M v13 M12 h11) yn_X9_maskAt rfl ⟨Nat.le_of_ble_eq_true rfl, Nat.le_of_ble_eq_true rfl⟩ rfl rfl (Nat.le_of_ble_eq_true rfl) ⟨Nat.zero_le _, Nat.zero_le _⟩ dX0_spread_66 rfl ?_
      refine am_ldc2 F (v := (-1 : Int64)) dX0_spread_69 wd_485 ?_
      refine am_lxor F dX0_spread_72 ?_
      refine am_land F dX0_spread_73 ?_
      refine am_iload F 4 dX0_spread_74 rfl ?_
      obtain ⟨v16, M15, h14, h⟩ := am_bE h
      refine am_callSNl F [.long (a4 &&& (v13 ^^^ (-1 : Int64))), .int a8] cw_X0_125  (c_X9_moved l D E z (a4 &&& (v13 ^^^ (-1 : Int64))) a8 M12 v16 M15 h14) yn_X9_moved rfl ⟨Nat.le_of_ble_eq_true rfl, Nat.le_of_ble_eq_true rfl⟩ rfl rfl (Nat.le_of_ble_eq_true rfl) ⟨Nat.zero_le _, Nat.zero_le _⟩ dX0_spread_76 rfl ?_
      refine am_lor F dX0_spread_79 ?_
      refine am_lstore F [(6, .long (a6 ||| v16)), (0, .ref (z + 161)), (3, .int a3), (4, .long a4), (8, .int a8)] dX0_spread_80 (by decide) rfl ?_
      refine am_iinc F [(8, .int (a8 + (1 : Int32))), (6, .long (a6 ||| v16)), (0, .ref (z + 161)), (3, .int a3), (4, .long a4)] 4 dX0_spread_82 (by decide) rfl rfl rfl ?_
      refine am_goto F (tgt := 45) dX0_spread_85 (by decide) ?_
      exact am_sub (lv' := [(0, .ref (z + 161)), (3, .int a3), (4, .long a4), (6, .long (a6 ||| v16)), (8, .int (a8 + (1 : Int32)))]) [2, 3, 4, 1, 0] rfl (ih (a6 ||| v16) (a8 + (1 : Int32)) M15 _ _ h K)
def g_X0_spread_J227 (rc : Int32 → am_M → Option ((Unit) × am_M)) (a3 : Int32) (a4 : Int64) (a8 : Int32) (as0 : Int64) (as1 : Int64) (M : am_M) : Option ((Unit) × am_M) := (am_b (g_X9_maskAt 162 31 (a3 + (3 : Int32)) M) (fun v43 M42 => (am_b (g_X9_join 164 31 (a3 + (3 : Int32)) ((as0 ||| as1) &&& (v43 ^^^ (-1 : Int64))) M42) (fun _ M45 => (rc (a8 + (1 : Int32)) M45)))))
set_option maxHeartbeats 4000000 in
set_option maxRecDepth 100000 in
theorem cj_X0_spread_J227 {l : Launch} {p : Program} {e : Env} {s : State} {m : MethodId} {args : Array Value} {below : List Frame} {meth : Method} {c : Code} {Q : State → Prop} {D : va_G} {E : Nat → ClassId} {z : Nat} (F : am_F p s m args meth c cX0_spread 17 RX0 D E z) (rc : Int32 → am_M → Option ((Unit) × am_M)) (a3 : Int32) (a4 : Int64) (a8 : Int32) (as0 : Int64) (as1 : Int64) (M : am_M) (x : Unit) (M1 : am_M) (h : g_X0_spread_J227 rc a3 a4 a8 as0 as1 M = some (x, M1)) (HR : ∀ (b8 : Int32) (M2 : am_M), rc b8 M2 = some (x, M1) → am_W p l e rm_X0_spread s m args below meth c Q 17 D E z 0 0 M2 118 [(0, .ref (z + 161)), (3, .int a3), (4, .long a4), (8, .int b8)] []) (K : am_W p l e rm_X0_spread s m args below meth c Q 17 D E z 0 0 M1 263 [(0, .ref (z + 161)), (3, .int a3)] []) : am_W p l e rm_X0_spread s m args below meth c Q 17 D E z 0 0 M 227 [(0, .ref (z + 161)), (3, .int a3), (4, .long a4), (8, .int a8)] [.long as1, .long as0] := by
  unfold g_X0_spread_J227 at h
  refine am_lor F dX0_spread_227 ?_
  refine am_lstore F [(15, .long (as0 ||| as1)), (0, .ref (z + 161)), (3, .int a3), (4, .long a4), (8, .int a8)] dX0_spread_228 (by decide) rfl ?_
  refine am_aload_n F 1 dX0_spread_230 rfl rfl ?_
  refine gf_X0_18 F lyk_161 dX0_spread_231 ?_
  refine am_iload_n F 2 dX0_spread_234 rfl rfl ?_
  refine am_iconst F (v := (3 : Int32)) dX0_spread_235 (by decide) ?_
  refine am_iadd F dX0_spread_236 ?_
  refine am_lload F 0 dX0_spread_237 rfl ?_
  refine am_aload_n F 1 dX0_spread_239 rfl rfl ?_
  refine gf_X0_9 F lyk_161 dX0_spread_240 ?_
  refine am_iload_n F 2 dX0_spread_243 rfl rfl ?_
  refine am_iconst F (v := (3 : Int32)) dX0_spread_244 (by decide) ?_
  refine am_iadd F dX0_spread_245 ?_
  obtain ⟨v43, M42, h41, h⟩ := am_bE h
  refine am_callSNl F [.ref (z + 162), .int (a3 + (3 : Int32))] cw_X0_94  (c_X9_maskAt l D E z 162 31 lyk_162 (a3 + (3 : Int32)) M v43 M42 h41) yn_X9_maskAt rfl ⟨Nat.le_of_ble_eq_true rfl, Nat.le_of_ble_eq_true rfl⟩ rfl rfl (Nat.le_of_ble_eq_true rfl) ⟨Nat.zero_le _, Nat.zero_le _⟩ dX0_spread_246 rfl ?_
  refine am_ldc2 F (v := (-1 : Int64)) dX0_spread_249 wd_485 ?_
  refine am_lxor F dX0_spread_252 ?_
  refine am_land F dX0_spread_253 ?_
  obtain ⟨_, M45, h44, h⟩ := am_bE h
  refine am_callSNv F [.ref (z + 164), .int (a3 + (3 : Int32)), .long ((as0 ||| as1) &&& (v43 ^^^ (-1 : Int64)))] cw_X0_76  (c_X9_join l D E z 164 31 lyk_164 (a3 + (3 : Int32)) ((as0 ||| as1) &&& (v43 ^^^ (-1 : Int64))) M42 M45 h44) yn_X9_join rfl ⟨Nat.le_of_ble_eq_true rfl, Nat.le_of_ble_eq_true rfl⟩ rfl rfl (Nat.le_of_ble_eq_true rfl) ⟨Nat.zero_le _, Nat.zero_le _⟩ dX0_spread_254 rfl ?_
  refine am_iinc F [(8, .int (a8 + (1 : Int32))), (15, .long (as0 ||| as1)), (0, .ref (z + 161)), (3, .int a3), (4, .long a4)] 4 dX0_spread_257 (by decide) rfl rfl rfl ?_
  refine am_goto F (tgt := 118) dX0_spread_260 (by decide) ?_
  exact am_sub (lv' := [(0, .ref (z + 161)), (3, .int a3), (4, .long a4), (8, .int (a8 + (1 : Int32)))]) [2, 3, 4, 0] rfl (HR (a8 + (1 : Int32)) M45 h)
def g_X0_spread_J211 (rc : Int32 → am_M → Option ((Unit) × am_M)) (a3 : Int32) (a4 : Int64) (a8 : Int32) (a9 : Int64) (a11 : Int64) (a13 : Int64) (as0 : Int64) (M : am_M) : Option ((Unit) × am_M) := (if (lg_cmp (a9 &&& a13) (0 : Int64)) = (0 : Int32) then (g_X0_spread_J227 rc a3 a4 a8 as0 (0 : Int64) M) else (g_X0_spread_J227 rc a3 a4 a8 as0 a11 M))
set_option maxHeartbeats 4000000 in
set_option maxRecDepth 100000 in
theorem cj_X0_spread_J211 {l : Launch} {p : Program} {e : Env} {s : State} {m : MethodId} {args : Array Value} {below : List Frame} {meth : Method} {c : Code} {Q : State → Prop} {D : va_G} {E : Nat → ClassId} {z : Nat} (F : am_F p s m args meth c cX0_spread 17 RX0 D E z) (rc : Int32 → am_M → Option ((Unit) × am_M)) (a3 : Int32) (a4 : Int64) (a8 : Int32) (a9 : Int64) (a11 : Int64) (a13 : Int64) (as0 : Int64) (M : am_M) (x : Unit) (M1 : am_M) (h : g_X0_spread_J211 rc a3 a4 a8 a9 a11 a13 as0 M = some (x, M1)) (HR : ∀ (b8 : Int32) (M2 : am_M), rc b8 M2 = some (x, M1) → am_W p l e rm_X0_spread s m args below meth c Q 17 D E z 0 0 M2 118 [(0, .ref (z + 161)), (3, .int a3), (4, .long a4), (8, .int b8)] []) (K : am_W p l e rm_X0_spread s m args below meth c Q 17 D E z 0 0 M1 263 [(0, .ref (z + 161)), (3, .int a3)] []) : am_W p l e rm_X0_spread s m args below meth c Q 17 D E z 0 0 M 211 [(0, .ref (z + 161)), (3, .int a3), (4, .long a4), (8, .int a8), (9, .long a9), (11, .long a11), (13, .long a13)] [.long as0] := by
  unfold g_X0_spread_J211 at h
  refine am_lload F 4 dX0_spread_211 rfl ?_
  refine am_lload F 6 dX0_spread_213 rfl ?_
  refine am_land F dX0_spread_215 ?_
  refine am_lconst F (v := (0 : Int64)) dX0_spread_216 (by decide) ?_
  refine am_lcmp F dX0_spread_217 ?_
  refine am_if_eq F (tgt := 226) dX0_spread_218 (by decide) (fun c46 => ?_) (fun c46 => ?_)
  · have h := (if_pos c46).symm.trans h
    refine am_lconst F (v := (0 : Int64)) dX0_spread_226 (by decide) ?_
    exact am_sub (lv' := [(0, .ref (z + 161)), (3, .int a3), (4, .long a4), (8, .int a8)]) [0, 1, 2, 3] rfl (cj_X0_spread_J227 F rc a3 a4 a8 as0 (0 : Int64) M _ _ h HR K)
  · have h := (if_neg c46).symm.trans h
    refine am_lload F 5 dX0_spread_221 rfl ?_
    refine am_goto F (tgt := 227) dX0_spread_223 (by decide) ?_
    exact am_sub (lv' := [(0, .ref (z + 161)), (3, .int a3), (4, .long a4), (8, .int a8)]) [0, 1, 2, 3] rfl (cj_X0_spread_J227 F rc a3 a4 a8 as0 a11 M _ _ h HR K)
def g_X0_spread_L118 (a3 : Int32) (a4 : Int64) : Nat → Int32 → am_M → Option ((Unit) × am_M)
  | 0, _, _ => none
  | n + 1, a8, M => (if (am_g M 2 3) ≤ a8 then (some ((), M)) else (am_b (g_X9_maskAt 163 210 (((a3 * (7 : Int32)) + (5 : Int32)) + a8) M) (fun v28 M27 => (am_b (g_X9_at (2 + 3) 4 ((2 : Int32) * a8) M27) (fun v31 M30 => (am_b (g_X9_bit v31 M30) (fun v34 M33 => (am_b (g_X9_at (2 + 3) 4 (((2 : Int32) * a8) + (1 : Int32)) M33) (fun v37 M36 => (am_b (g_X9_bit v37 M36) (fun v40 M39 => (if (lg_cmp ((a4 &&& (v28 ^^^ (-1 : Int64))) &&& v34) (0 : Int64)) = (0 : Int32) then (g_X0_spread_J211 (g_X0_spread_L118 a3 a4 n) a3 a4 a8 (a4 &&& (v28 ^^^ (-1 : Int64))) v34 v40 (0 : Int64) M39) else (g_X0_spread_J211 (g_X0_spread_L118 a3 a4 n) a3 a4 a8 (a4 &&& (v28 ^^^ (-1 : Int64))) v34 v40 v40 M39)))))))))))))
set_option maxHeartbeats 4000000 in
set_option maxRecDepth 100000 in
theorem cl_X0_spread_L118 {l : Launch} {p : Program} {e : Env} {s : State} {m : MethodId} {args : Array Value} {below : List Frame} {meth : Method} {c : Code} {Q : State → Prop} {D : va_G} {E : Nat → ClassId} {z : Nat} (F : am_F p s m args meth c cX0_spread 17 RX0 D E z) (a3 : Int32) (a4 : Int64) : ∀ (n : Nat) (a8 : Int32) (M : am_M) (x : Unit) (M1 : am_M), g_X0_spread_L118 a3 a4 n a8 M = some (x, M1) → (am_W p l e rm_X0_spread s m args below meth c Q 17 D E z 0 0 M1 263 [(0, .ref (z + 161)), (3, .int a3)] []) → am_W p l e rm_X0_spread s m args below meth c Q 17 D E z 0 0 M 118 [(0, .ref (z + 161)), (3, .int a3), (4, .long a4), (8, .int a8)] [] := by
  intro n
  induction n with
  | zero => intro a8 M x M1 h K; cases h
  | succ n ih =>
    intro a8 M x M1 h K
    rw [g_X0_spread_L118] at h
    refine am_iload F 3 dX0_spread_118 rfl ?_
    refine am_aload_n F 0 dX0_spread_120 rfl rfl ?_
    refine gf_X0_25 F lyk_161 dX0_spread_121 ?_
    refine gf_X0_129 F lyk_2 dX0_spread_124 ?_
    refine am_icmp_ge F (tgt := 263) dX0_spread_127 (by decide) (fun c48 => ?_) (fun c48 => ?_)
    · have h := (if_pos c48).symm.trans h
      cases h
      exact am_sub (lv' := [(0, .ref (z + 161)), (3, .int a3)]) [0, 1] rfl (K)
    · have h := (if_neg c48).symm.trans h
      refine am_lload F 2 dX0_spread_130 rfl ?_
      refine am_aload_n F 0 dX0_spread_132 rfl rfl ?_
      refine gf_X0_15 F lyk_161 dX0_spread_133 ?_
      refine am_iload_n F 1 dX0_spread_136 rfl rfl ?_
      refine am_bipush F (v := (7 : Int32)) dX0_spread_137 (by decide) ?_
      refine am_imul F dX0_spread_139 ?_
      refine am_iconst F (v := (5 : Int32)) dX0_spread_140 (by decide) ?_
      refine am_iadd F dX0_spread_141 ?_
      refine am_iload F 3 dX0_spread_142 rfl ?_
      refine am_iadd F dX0_spread_144 ?_
      obtain ⟨v28, M27, h26, h⟩ := am_bE h
      refine am_callSNl F [.ref (z + 163), .int (((a3 * (7 : Int32)) + (5 : Int32)) + a8)] cw_X0_94  (c_X9_maskAt l D E z 163 210 lyk_163 (((a3 * (7 : Int32)) + (5 : Int32)) + a8) M v28 M27 h26) yn_X9_maskAt rfl ⟨Nat.le_of_ble_eq_true rfl, Nat.le_of_ble_eq_true rfl⟩ rfl rfl (Nat.le_of_ble_eq_true rfl) ⟨Nat.zero_le _, Nat.zero_le _⟩ dX0_spread_145 rfl ?_
      refine am_ldc2 F (v := (-1 : Int64)) dX0_spread_148 wd_485 ?_
      refine am_lxor F dX0_spread_151 ?_
      refine am_land F dX0_spread_152 ?_
      refine am_lstore F [(9, .long (a4 &&& (v28 ^^^ (-1 : Int64)))), (0, .ref (z + 161)), (3, .int a3), (4, .long a4), (8, .int a8)] dX0_spread_153 (by decide) rfl ?_
      refine am_aload_n F 1 dX0_spread_155 rfl rfl ?_
      refine gf_X0_25 F lyk_161 dX0_spread_156 ?_
      refine gf_X0_132 F lyk_2 dX0_spread_159 ?_
      refine am_iconst F (v := (2 : Int32)) dX0_spread_162 (by decide) ?_
      refine am_iload F 4 dX0_spread_163 rfl ?_
      refine am_imul F dX0_spread_165 ?_
      obtain ⟨v31, M30, h29, h⟩ := am_bE h
      refine am_callSNi F [.ref (z + (2 + 3)), .int ((2 : Int32) * a8)] cw_X0_135  (c_X9_at l D E z (2 + 3) 4 (lyf_1_ends lyk_2) ((2 : Int32) * a8) M27 v31 M30 h29) yn_X9_at rfl ⟨Nat.le_of_ble_eq_true rfl, Nat.le_of_ble_eq_true rfl⟩ rfl rfl (Nat.le_of_ble_eq_true rfl) ⟨Nat.zero_le _, Nat.zero_le _⟩ dX0_spread_166 rfl ?_
      obtain ⟨v34, M33, h32, h⟩ := am_bE h
      refine am_callSNl F [.int v31] cw_X0_72  (c_X9_bit l D E z v31 M30 v34 M33 h32) yn_X9_bit rfl ⟨Nat.le_of_ble_eq_true rfl, Nat.le_of_ble_eq_true rfl⟩ rfl rfl (Nat.le_of_ble_eq_true rfl) ⟨Nat.zero_le _, Nat.zero_le _⟩ dX0_spread_169 rfl ?_
      refine am_lstore F [(11, .long v34), (9, .long (a4 &&& (v28 ^^^ (-1 : Int64)))), (0, .ref (z + 161)), (3, .int a3), (4, .long a4), (8, .int a8)] dX0_spread_172 (by decide) rfl ?_
      refine am_aload_n F 2 dX0_spread_174 rfl rfl ?_
      refine gf_X0_25 F lyk_161 dX0_spread_175 ?_
      refine gf_X0_132 F lyk_2 dX0_spread_178 ?_
      refine am_iconst F (v := (2 : Int32)) dX0_spread_181 (by decide) ?_
      refine am_iload F 5 dX0_spread_182 rfl ?_
      refine am_imul F dX0_spread_184 ?_
      refine am_iconst F (v := (1 : Int32)) dX0_spread_185 (by decide) ?_
      refine am_iadd F dX0_spread_186 ?_
      obtain ⟨v37, M36, h35, h⟩ := am_bE h
      refine am_callSNi F [.ref (z + (2 + 3)), .int (((2 : Int32) * a8) + (1 : Int32))] cw_X0_135  (c_X9_at l D E z (2 + 3) 4 (lyf_1_ends lyk_2) (((2 : Int32) * a8) + (1 : Int32)) M33 v37 M36 h35) yn_X9_at rfl ⟨Nat.le_of_ble_eq_true rfl, Nat.le_of_ble_eq_true rfl⟩ rfl rfl (Nat.le_of_ble_eq_true rfl) ⟨Nat.zero_le _, Nat.zero_le _⟩ dX0_spread_187 rfl ?_
      obtain ⟨v40, M39, h38, h⟩ := am_bE h
      refine am_callSNl F [.int v37] cw_X0_72  (c_X9_bit l D E z v37 M36 v40 M39 h38) yn_X9_bit rfl ⟨Nat.le_of_ble_eq_true rfl, Nat.le_of_ble_eq_true rfl⟩ rfl rfl (Nat.le_of_ble_eq_true rfl) ⟨Nat.zero_le _, Nat.zero_le _⟩ dX0_spread_190 rfl ?_
      refine am_lstore F [(13, .long v40), (11, .long v34), (9, .long (a4 &&& (v28 ^^^ (-1 : Int64)))), (0, .ref (z + 161)), (3, .int a3), (4, .long a4), (8, .int a8)] dX0_spread_193 (by decide) rfl ?_
      refine am_lload F 2 dX0_spread_195 rfl ?_
      refine am_lload F 1 dX0_spread_197 rfl ?_
      refine am_land F dX0_spread_199 ?_
      refine am_lconst F (v := (0 : Int64)) dX0_spread_200 (by decide) ?_
      refine am_lcmp F dX0_spread_201 ?_
      refine am_if_eq F (tgt := 210) dX0_spread_202 (by decide) (fun c47 => ?_) (fun c47 => ?_)
      · have h := (if_pos c47).symm.trans h
        refine am_lconst F (v := (0 : Int64)) dX0_spread_210 (by decide) ?_
        exact am_sub (lv' := [(0, .ref (z + 161)), (3, .int a3), (4, .long a4), (8, .int a8), (9, .long (a4 &&& (v28 ^^^ (-1 : Int64)))), (11, .long v34), (13, .long v40)]) [3, 4, 5, 6, 2, 1, 0] rfl (cj_X0_spread_J211 F (g_X0_spread_L118 a3 a4 n) a3 a4 a8 (a4 &&& (v28 ^^^ (-1 : Int64))) v34 v40 (0 : Int64) M39 _ _ h (fun b8 M2 h2 => ih b8 M2 _ _ h2 K) K)
      · have h := (if_neg c47).symm.trans h
        refine am_lload F 0 dX0_spread_205 rfl ?_
        refine am_goto F (tgt := 211) dX0_spread_207 (by decide) ?_
        exact am_sub (lv' := [(0, .ref (z + 161)), (3, .int a3), (4, .long a4), (8, .int a8), (9, .long (a4 &&& (v28 ^^^ (-1 : Int64)))), (11, .long v34), (13, .long v40)]) [3, 4, 5, 6, 2, 1, 0] rfl (cj_X0_spread_J211 F (g_X0_spread_L118 a3 a4 n) a3 a4 a8 (a4 &&& (v28 ^^^ (-1 : Int64))) v34 v40 v40 M39 _ _ h (fun b8 M2 h2 => ih b8 M2 _ _ h2 K) K)
def g_X0_spread_L22  : Nat → Int32 → am_M → Option ((Unit) × am_M)
  | 0, _, _ => none
  | n + 1, a3, M => (if (30 : Int32) ≤ a3 then (some ((), M)) else (am_b (g_X9_maskAt 164 31 a3 M) (fun v10 M9 => (am_b (g_X0_spread_L45 a3 v10 am_fu v10 (1 : Int32) M9) (fun x18 M19 => (am_b (g_X9_maskAt 162 31 (a3 + (1 : Int32)) M19) (fun v23 M22 => (am_b (g_X9_join 164 31 (a3 + (1 : Int32)) (x18 &&& (v23 ^^^ (-1 : Int64))) M22) (fun _ M25 => (am_b (g_X0_spread_L118 a3 v10 am_fu (0 : Int32) M25) (fun x49 M50 => (g_X0_spread_L22  n (a3 + (1 : Int32)) M50))))))))))))
set_option maxHeartbeats 4000000 in
set_option maxRecDepth 100000 in
theorem cl_X0_spread_L22 {l : Launch} {p : Program} {e : Env} {s : State} {m : MethodId} {args : Array Value} {below : List Frame} {meth : Method} {c : Code} {Q : State → Prop} {D : va_G} {E : Nat → ClassId} {z : Nat} (F : am_F p s m args meth c cX0_spread 17 RX0 D E z)  : ∀ (n : Nat) (a3 : Int32) (M : am_M) (x : Unit) (M1 : am_M), g_X0_spread_L22  n a3 M = some (x, M1) → (am_W p l e rm_X0_spread s m args below meth c Q 17 D E z 0 0 M1 269 [] []) → am_W p l e rm_X0_spread s m args below meth c Q 17 D E z 0 0 M 22 [(0, .ref (z + 161)), (3, .int a3)] [] := by
  intro n
  induction n with
  | zero => intro a3 M x M1 h K; cases h
  | succ n ih =>
    intro a3 M x M1 h K
    rw [g_X0_spread_L22] at h
    refine am_iload_n F 1 dX0_spread_22 rfl rfl ?_
    refine am_bipush F (v := (30 : Int32)) dX0_spread_23 (by decide) ?_
    refine am_icmp_ge F (tgt := 269) dX0_spread_25 (by decide) (fun c52 => ?_) (fun c52 => ?_)
    · have h := (if_pos c52).symm.trans h
      cases h
      exact am_sub (lv' := []) [] rfl (K)
    · have h := (if_neg c52).symm.trans h
      refine am_aload_n F 0 dX0_spread_28 rfl rfl ?_
      refine gf_X0_18 F lyk_161 dX0_spread_29 ?_
      refine am_iload_n F 1 dX0_spread_32 rfl rfl ?_
      obtain ⟨v10, M9, h8, h⟩ := am_bE h
      refine am_callSNl F [.ref (z + 164), .int a3] cw_X0_94  (c_X9_maskAt l D E z 164 31 lyk_164 a3 M v10 M9 h8) yn_X9_maskAt rfl ⟨Nat.le_of_ble_eq_true rfl, Nat.le_of_ble_eq_true rfl⟩ rfl rfl (Nat.le_of_ble_eq_true rfl) ⟨Nat.zero_le _, Nat.zero_le _⟩ dX0_spread_33 rfl ?_
      refine am_lstore F [(4, .long v10), (0, .ref (z + 161)), (3, .int a3)] dX0_spread_36 (by decide) rfl ?_
      refine am_lload F 0 dX0_spread_38 rfl ?_
      refine am_lstore F [(6, .long v10), (4, .long v10), (0, .ref (z + 161)), (3, .int a3)] dX0_spread_40 (by decide) rfl ?_
      refine am_iconst F (v := (1 : Int32)) dX0_spread_42 (by decide) ?_
      refine am_istore F [(8, .int (1 : Int32)), (6, .long v10), (4, .long v10), (0, .ref (z + 161)), (3, .int a3)] dX0_spread_43 (by decide) rfl ?_
      obtain ⟨x18, M19, h20, h⟩ := am_bE h
      refine am_sub (lv' := [(0, .ref (z + 161)), (3, .int a3), (4, .long v10), (6, .long v10), (8, .int (1 : Int32))]) [3, 4, 2, 1, 0] rfl (cl_X0_spread_L45 F a3 v10 am_fu v10 (1 : Int32) M9 x18 M19 h20 ?_)
      refine am_aload_n F 0 dX0_spread_88 rfl rfl ?_
      refine gf_X0_18 F lyk_161 dX0_spread_89 ?_
      refine am_iload_n F 1 dX0_spread_92 rfl rfl ?_
      refine am_iconst F (v := (1 : Int32)) dX0_spread_93 (by decide) ?_
      refine am_iadd F dX0_spread_94 ?_
      refine am_lload F 3 dX0_spread_95 rfl ?_
      refine am_aload_n F 0 dX0_spread_97 rfl rfl ?_
      refine gf_X0_9 F lyk_161 dX0_spread_98 ?_
      refine am_iload_n F 1 dX0_spread_101 rfl rfl ?_
      refine am_iconst F (v := (1 : Int32)) dX0_spread_102 (by decide) ?_
      refine am_iadd F dX0_spread_103 ?_
      obtain ⟨v23, M22, h21, h⟩ := am_bE h
      refine am_callSNl F [.ref (z + 162), .int (a3 + (1 : Int32))] cw_X0_94  (c_X9_maskAt l D E z 162 31 lyk_162 (a3 + (1 : Int32)) M19 v23 M22 h21) yn_X9_maskAt rfl ⟨Nat.le_of_ble_eq_true rfl, Nat.le_of_ble_eq_true rfl⟩ rfl rfl (Nat.le_of_ble_eq_true rfl) ⟨Nat.zero_le _, Nat.zero_le _⟩ dX0_spread_104 rfl ?_
      refine am_ldc2 F (v := (-1 : Int64)) dX0_spread_107 wd_485 ?_
      refine am_lxor F dX0_spread_110 ?_
      refine am_land F dX0_spread_111 ?_
      obtain ⟨_, M25, h24, h⟩ := am_bE h
      refine am_callSNv F [.ref (z + 164), .int (a3 + (1 : Int32)), .long (x18 &&& (v23 ^^^ (-1 : Int64)))] cw_X0_76  (c_X9_join l D E z 164 31 lyk_164 (a3 + (1 : Int32)) (x18 &&& (v23 ^^^ (-1 : Int64))) M22 M25 h24) yn_X9_join rfl ⟨Nat.le_of_ble_eq_true rfl, Nat.le_of_ble_eq_true rfl⟩ rfl rfl (Nat.le_of_ble_eq_true rfl) ⟨Nat.zero_le _, Nat.zero_le _⟩ dX0_spread_112 rfl ?_
      refine am_iconst F (v := (0 : Int32)) dX0_spread_115 (by decide) ?_
      refine am_istore F [(8, .int (0 : Int32)), (0, .ref (z + 161)), (3, .int a3), (4, .long v10), (6, .long x18)] dX0_spread_116 (by decide) rfl ?_
      obtain ⟨x49, M50, h51, h⟩ := am_bE h
      refine am_sub (lv' := [(0, .ref (z + 161)), (3, .int a3), (4, .long v10), (8, .int (0 : Int32))]) [1, 2, 3, 0] rfl (cl_X0_spread_L118 F a3 v10 am_fu (0 : Int32) M25 x49 M50 h51 ?_)
      refine am_iinc F [(3, .int (a3 + (1 : Int32))), (0, .ref (z + 161))] 1 dX0_spread_263 (by decide) rfl rfl rfl ?_
      refine am_goto F (tgt := 22) dX0_spread_266 (by decide) ?_
      exact am_sub (lv' := [(0, .ref (z + 161)), (3, .int (a3 + (1 : Int32)))]) [1, 0] rfl (ih (a3 + (1 : Int32)) M50 _ _ h K)
def g_X0_spread (a1 : Int32) (a2 : Int32) (M : am_M) : Option (Unit × am_M) := (am_b (g_X9_fillMasks 164 31 (0 : Int64) M) (fun _ M2 => (am_b (g_X9_bit a1 M2) (fun v5 M4 => (am_b (g_X9_join 164 31 a2 v5 M4) (fun _ M7 => (am_b (g_X0_spread_L22  am_fu a2 M7) (fun x53 M54 => (some ((), M54))))))))))
set_option maxHeartbeats 4000000 in
set_option maxRecDepth 100000 in
theorem c_X0_spread (l : Launch) (D : va_G) (E : Nat → ClassId) (z : Nat) (a1 : Int32) (a2 : Int32) (M : am_M)  (M1 : am_M) (h : g_X0_spread a1 a2 M = some ((), M1)) : am_Mv l yX0_spread cX0_spread 17 none rm_X0_spread D E z [.ref (z + 161), .int a1, .int a2] M M1 := by
  unfold g_X0_spread at h
  refine am_of (own := RX0) (by decide +kernel) rfl (by exact Nat.le_of_ble_eq_true rfl) ?_
  intro p e s m args below meth c F hr
  show am_W p l e rm_X0_spread s m args below meth c _ 17 D E z 0 0 M 0 [(0, .ref (z + 161)), (1, .int a1), (2, .int a2)] []
  refine am_aload_n F 0 dX0_spread_0 rfl rfl ?_
  refine gf_X0_18 F lyk_161 dX0_spread_1 ?_
  refine am_lconst F (v := (0 : Int64)) dX0_spread_4 (by decide) ?_
  obtain ⟨_, M2, h1, h⟩ := am_bE h
  refine am_callSNv F [.ref (z + 164), .long (0 : Int64)] cw_X0_61  (c_X9_fillMasks l D E z 164 31 lyk_164 (0 : Int64) M M2 h1) yn_X9_fillMasks rfl ⟨Nat.le_of_ble_eq_true rfl, Nat.le_of_ble_eq_true rfl⟩ rfl rfl (Nat.le_of_ble_eq_true rfl) ⟨Nat.zero_le _, Nat.zero_le _⟩ dX0_spread_5 rfl ?_
  refine am_aload_n F 0 dX0_spread_8 rfl rfl ?_
  refine gf_X0_18 F lyk_161 dX0_spread_9 ?_
  refine am_iload_n F 2 dX0_spread_12 rfl rfl ?_
  refine am_iload_n F 1 dX0_spread_13 rfl rfl ?_
  obtain ⟨v5, M4, h3, h⟩ := am_bE h
  refine am_callSNl F [.int a1] cw_X0_72  (c_X9_bit l D E z a1 M2 v5 M4 h3) yn_X9_bit rfl ⟨Nat.le_of_ble_eq_true rfl, Nat.le_of_ble_eq_true rfl⟩ rfl rfl (Nat.le_of_ble_eq_true rfl) ⟨Nat.zero_le _, Nat.zero_le _⟩ dX0_spread_14 rfl ?_
  obtain ⟨_, M7, h6, h⟩ := am_bE h
  refine am_callSNv F [.ref (z + 164), .int a2, .long v5] cw_X0_76  (c_X9_join l D E z 164 31 lyk_164 a2 v5 M4 M7 h6) yn_X9_join rfl ⟨Nat.le_of_ble_eq_true rfl, Nat.le_of_ble_eq_true rfl⟩ rfl rfl (Nat.le_of_ble_eq_true rfl) ⟨Nat.zero_le _, Nat.zero_le _⟩ dX0_spread_17 rfl ?_
  refine am_iload_n F 2 dX0_spread_20 rfl rfl ?_
  refine am_istore_n F [(3, .int a2), (0, .ref (z + 161)), (1, .int a1), (2, .int a2)] dX0_spread_21 rfl (by decide) rfl ?_
  obtain ⟨x53, M54, h55, h⟩ := am_bE h
  refine am_sub (lv' := [(0, .ref (z + 161)), (3, .int a2)]) [1, 0] rfl (cl_X0_spread_L22 F  am_fu a2 M7 x53 M54 h55 ?_)
  exact am_vret F hr h dX0_spread_269
/-! AisleScheduler$Finder.endOf(LAisleScheduler$Plan;IZ)I -/
abbrev rm_X0_endOf : Room := { frames := 3, cells := 0, slots := 0, locals := 83 }
theorem yn_X0_endOf : am_yn yX0_endOf 3 := ⟨⟨by decide +kernel, by decide +kernel⟩, by decide +kernel⟩
def g_X0_endOf_L19 (a2 : Int32) (a3 : Int32) : Nat → Int32 → Int32 → am_M → Option ((Int32) × am_M)
  | 0, _, _, _ => none
  | n + 1, a4, a5, M => (if a3 = (0 : Int32) then (some (a4, M)) else (if (30 : Int32) < a5 then (some (a4, M)) else (am_b (g_X0_isClosed a2 a5 M) (fun v8 M7 => (if v8 = (0 : Int32) then (g_X0_endOf_L19 a2 a3 n a4 (a5 + (1 : Int32)) M7) else (g_X0_endOf_L19 a2 a3 n (if a4 < (a5 + (1 : Int32)) then (a5 + (1 : Int32)) else a4) (a5 + (1 : Int32)) M7))))))
set_option maxHeartbeats 4000000 in
set_option maxRecDepth 100000 in
theorem cl_X0_endOf_L19 {l : Launch} {p : Program} {e : Env} {s : State} {m : MethodId} {args : Array Value} {below : List Frame} {meth : Method} {c : Code} {Q : State → Prop} {D : va_G} {E : Nat → ClassId} {z : Nat} (F : am_F p s m args meth c cX0_endOf 6 RX0 D E z) (a2 : Int32) (a3 : Int32) : ∀ (n : Nat) (a4 : Int32) (a5 : Int32) (M : am_M) (x : Int32) (M1 : am_M), g_X0_endOf_L19 a2 a3 n a4 a5 M = some (x, M1) → (am_W p l e rm_X0_endOf s m args below meth c Q 6 D E z 0 0 M1 57 [(0, .ref (z + 161)), (2, .int a2), (4, .int x)] []) → am_W p l e rm_X0_endOf s m args below meth c Q 6 D E z 0 0 M 19 [(0, .ref (z + 161)), (2, .int a2), (3, .int a3), (4, .int a4), (5, .int a5)] [] := by
  intro n
  induction n with
  | zero => intro a4 a5 M x M1 h K; cases h
  | succ n ih =>
    intro a4 a5 M x M1 h K
    rw [g_X0_endOf_L19] at h
    refine am_iload_n F 2 dX0_endOf_19 rfl rfl ?_
    refine am_if_eq F (tgt := 57) dX0_endOf_20 (by decide) (fun c11 => ?_) (fun c11 => ?_)
    · have h := (if_pos c11).symm.trans h
      cases h
      exact am_sub (lv' := [(0, .ref (z + 161)), (2, .int a2), (4, .int a4)]) [0, 1, 3] rfl (K)
    · have h := (if_neg c11).symm.trans h
      refine am_iload F 4 dX0_endOf_23 rfl ?_
      refine am_bipush F (v := (30 : Int32)) dX0_endOf_25 (by decide) ?_
      refine am_icmp_gt F (tgt := 57) dX0_endOf_27 (by decide) (fun c10 => ?_) (fun c10 => ?_)
      · have h := (if_pos c10).symm.trans h
        cases h
        exact am_sub (lv' := [(0, .ref (z + 161)), (2, .int a2), (4, .int a4)]) [0, 1, 3] rfl (K)
      · have h := (if_neg c10).symm.trans h
        refine am_aload_n F 0 dX0_endOf_30 rfl rfl ?_
        refine am_iload_n F 1 dX0_endOf_31 rfl rfl ?_
        refine am_iload F 4 dX0_endOf_32 rfl ?_
        obtain ⟨v8, M7, h6, h⟩ := am_bE h
        refine am_callVi F [.int a2, .int a5] lyk_161 (by decide) rfl cw_X0_119 (c_X0_isClosed l D E z a2 a5 M v8 M7 h6) yn_X0_isClosed rfl ⟨Nat.le_of_ble_eq_true rfl, Nat.le_of_ble_eq_true rfl⟩ rfl rfl (Nat.le_of_ble_eq_true rfl) ⟨Nat.zero_le _, Nat.zero_le _⟩ dX0_endOf_34 rfl ?_
        refine am_if_eq F (tgt := 51) dX0_endOf_37 (by decide) (fun c9 => ?_) (fun c9 => ?_)
        · have h := (if_pos c9).symm.trans h
          refine am_iinc F [(5, .int (a5 + (1 : Int32))), (0, .ref (z + 161)), (2, .int a2), (3, .int a3), (4, .int a4)] 4 dX0_endOf_51 (by decide) rfl rfl rfl ?_
          refine am_goto F (tgt := 19) dX0_endOf_54 (by decide) ?_
          exact am_sub (lv' := [(0, .ref (z + 161)), (2, .int a2), (3, .int a3), (4, .int a4), (5, .int (a5 + (1 : Int32)))]) [1, 2, 3, 4, 0] rfl (ih a4 (a5 + (1 : Int32)) M7 _ _ h K)
        · have h := (if_neg c9).symm.trans h
          refine am_iload F 3 dX0_endOf_40 rfl ?_
          refine am_iload F 4 dX0_endOf_42 rfl ?_
          refine am_iconst F (v := (1 : Int32)) dX0_endOf_44 (by decide) ?_
          refine am_iadd F dX0_endOf_45 ?_
          refine am_max F dX0_endOf_46 wd_464 (Nat.le_of_ble_eq_true rfl) (Nat.le_of_ble_eq_true rfl) (Nat.le_of_ble_eq_true rfl) (Nat.le_of_ble_eq_true rfl) ?_
          refine am_istore F [(4, .int (if a4 < (a5 + (1 : Int32)) then (a5 + (1 : Int32)) else a4)), (0, .ref (z + 161)), (2, .int a2), (3, .int a3), (5, .int a5)] dX0_endOf_49 (by decide) rfl ?_
          refine am_iinc F [(5, .int (a5 + (1 : Int32))), (4, .int (if a4 < (a5 + (1 : Int32)) then (a5 + (1 : Int32)) else a4)), (0, .ref (z + 161)), (2, .int a2), (3, .int a3)] 4 dX0_endOf_51 (by decide) rfl rfl rfl ?_
          refine am_goto F (tgt := 19) dX0_endOf_54 (by decide) ?_
          exact am_sub (lv' := [(0, .ref (z + 161)), (2, .int a2), (3, .int a3), (4, .int (if a4 < (a5 + (1 : Int32)) then (a5 + (1 : Int32)) else a4)), (5, .int (a5 + (1 : Int32)))]) [2, 3, 4, 1, 0] rfl (ih (if a4 < (a5 + (1 : Int32)) then (a5 + (1 : Int32)) else a4) (a5 + (1 : Int32)) M7 _ _ h K)
def g_X0_endOf_L61 (a2 : Int32) : Nat → Int32 → am_M → Option ((Nat × Int32) × am_M)
  | 0, _, _ => none
  | n + 1, a5, M => (if (30 : Int32) < a5 then (some ((96, a5), M)) else (am_b (g_X9_maskAt 164 31 a5 M) (fun v17 M16 => (am_b (g_X9_bit a2 M16) (fun v20 M19 => (if (lg_cmp (v17 &&& v20) (0 : Int64)) = (0 : Int32) then (g_X0_endOf_L61 a2 n (a5 + (1 : Int32)) M19) else (some ((87, a5), M19))))))))
set_option maxHeartbeats 4000000 in
set_option maxRecDepth 100000 in
theorem cl_X0_endOf_L61 {l : Launch} {p : Program} {e : Env} {s : State} {m : MethodId} {args : Array Value} {below : List Frame} {meth : Method} {c : Code} {Q : State → Prop} {D : va_G} {E : Nat → ClassId} {z : Nat} (F : am_F p s m args meth c cX0_endOf 6 RX0 D E z) (a2 : Int32) : ∀ (n : Nat) (a5 : Int32) (M : am_M) (x : Nat × Int32) (M1 : am_M), g_X0_endOf_L61 a2 n a5 M = some (x, M1) → ((x.1 = 87 → am_W p l e rm_X0_endOf s m args below meth c Q 6 D E z 0 0 M1 87 [(5, .int x.2)] []) ∧ (x.1 = 96 → am_W p l e rm_X0_endOf s m args below meth c Q 6 D E z 0 0 M1 96 [] [])) → am_W p l e rm_X0_endOf s m args below meth c Q 6 D E z 0 0 M 61 [(0, .ref (z + 161)), (2, .int a2), (5, .int a5)] [] := by
  intro n
  induction n with
  | zero => intro a5 M x M1 h K; cases h
  | succ n ih =>
    intro a5 M x M1 h K
    rw [g_X0_endOf_L61] at h
    refine am_iload F 2 dX0_endOf_61 rfl ?_
    refine am_bipush F (v := (30 : Int32)) dX0_endOf_63 (by decide) ?_
    refine am_icmp_gt F (tgt := 96) dX0_endOf_65 (by decide) (fun c22 => ?_) (fun c22 => ?_)
    · have h := (if_pos c22).symm.trans h
      cases h
      exact am_sub (lv' := []) [] rfl (K.2 rfl)
    · have h := (if_neg c22).symm.trans h
      refine am_aload_n F 0 dX0_endOf_68 rfl rfl ?_
      refine gf_X0_18 F lyk_161 dX0_endOf_69 ?_
      refine am_iload F 2 dX0_endOf_72 rfl ?_
      obtain ⟨v17, M16, h15, h⟩ := am_bE h
      refine am_callSNl F [.ref (z + 164), .int a5] cw_X0_94  (c_X9_maskAt l D E z 164 31 lyk_164 a5 M v17 M16 h15) yn_X9_maskAt rfl ⟨Nat.le_of_ble_eq_true rfl, Nat.le_of_ble_eq_true rfl⟩ rfl rfl (Nat.le_of_ble_eq_true rfl) ⟨Nat.zero_le _, Nat.zero_le _⟩ dX0_endOf_74 rfl ?_
      refine am_iload_n F 1 dX0_endOf_77 rfl rfl ?_
      obtain ⟨v20, M19, h18, h⟩ := am_bE h
      refine am_callSNl F [.int a2] cw_X0_72  (c_X9_bit l D E z a2 M16 v20 M19 h18) yn_X9_bit rfl ⟨Nat.le_of_ble_eq_true rfl, Nat.le_of_ble_eq_true rfl⟩ rfl rfl (Nat.le_of_ble_eq_true rfl) ⟨Nat.zero_le _, Nat.zero_le _⟩ dX0_endOf_78 rfl ?_
      refine am_land F dX0_endOf_81 ?_
      refine am_lconst F (v := (0 : Int64)) dX0_endOf_82 (by decide) ?_
      refine am_lcmp F dX0_endOf_83 ?_
      refine am_if_eq F (tgt := 90) dX0_endOf_84 (by decide) (fun c21 => ?_) (fun c21 => ?_)
      · have h := (if_pos c21).symm.trans h
        refine am_iinc F [(5, .int (a5 + (1 : Int32))), (0, .ref (z + 161)), (2, .int a2)] 2 dX0_endOf_90 (by decide) rfl rfl rfl ?_
        refine am_goto F (tgt := 61) dX0_endOf_93 (by decide) ?_
        exact am_sub (lv' := [(0, .ref (z + 161)), (2, .int a2), (5, .int (a5 + (1 : Int32)))]) [1, 2, 0] rfl (ih (a5 + (1 : Int32)) M19 _ _ h K)
      · have h := (if_neg c21).symm.trans h
        cases h
        exact am_sub (lv' := [(5, .int a5)]) [2] rfl (K.1 rfl)
def g_X0_endOf (t1 : Nat) (a2 : Int32) (a3 : Int32) (M : am_M) : Option (Int32 × am_M) := (am_b (g_X2_lastPlace t1 M) (fun v3 M2 => (am_b (g_X0_spread v3 (am_g M t1 3) M2) (fun _ M5 => (am_b (g_X0_endOf_L19 a2 a3 am_fu (am_g M t1 3) (0 : Int32) M5) (fun x12 M13 => (am_b (g_X0_endOf_L61 a2 am_fu x12 M13) (fun x23 M24 => (if x23.1 = 87 then (some (x23.2, M24)) else (some ((-1 : Int32), M24)))))))))))
set_option maxHeartbeats 4000000 in
set_option maxRecDepth 100000 in
theorem c_X0_endOf (l : Launch) (D : va_G) (E : Nat → ClassId) (z : Nat) (t1 : Nat) (y1 : am_ly t1 = (2, 0)) (a2 : Int32) (a3 : Int32) (M : am_M) (r0 : Int32) (M1 : am_M) (h : g_X0_endOf t1 a2 a3 M = some (r0, M1)) : am_Mi l yX0_endOf cX0_endOf 6 (some .int) rm_X0_endOf D E z [.ref (z + 161), .ref (z + t1), .int a2, .int a3] M r0 M1 := by
  unfold g_X0_endOf at h
  refine am_of (own := RX0) (by decide +kernel) rfl (by exact Nat.le_of_ble_eq_true rfl) ?_
  intro p e s m args below meth c F hr
  show am_W p l e rm_X0_endOf s m args below meth c _ 6 D E z 0 0 M 0 [(0, .ref (z + 161)), (1, .ref (z + t1)), (2, .int a2), (3, .int a3)] []
  refine am_aload_n F 1 dX0_endOf_0 rfl rfl ?_
  refine gf_X0_98 F y1 dX0_endOf_1 ?_
  refine am_istore F [(4, .int (am_g M t1 3)), (0, .ref (z + 161)), (1, .ref (z + t1)), (2, .int a2), (3, .int a3)] dX0_endOf_4 (by decide) rfl ?_
  refine am_aload_n F 1 dX0_endOf_6 rfl rfl ?_
  refine am_aload_n F 2 dX0_endOf_7 rfl rfl ?_
  obtain ⟨v3, M2, h1, h⟩ := am_bE h
  refine am_callVi F [] y1 (by decide) rfl cw_X0_112 (c_X2_lastPlace l D E z t1 y1 M v3 M2 h1) yn_X2_lastPlace rfl ⟨Nat.le_of_ble_eq_true rfl, Nat.le_of_ble_eq_true rfl⟩ rfl rfl (Nat.le_of_ble_eq_true rfl) ⟨Nat.zero_le _, Nat.zero_le _⟩ dX0_endOf_8 rfl ?_
  refine am_iload F 0 dX0_endOf_11 rfl ?_
  obtain ⟨_, M5, h4, h⟩ := am_bE h
  refine am_callVv F [.int v3, .int (am_g M t1 3)] lyk_161 (by decide) rfl cw_X0_116 (c_X0_spread l D E z v3 (am_g M t1 3) M2 M5 h4) yn_X0_spread rfl ⟨Nat.le_of_ble_eq_true rfl, Nat.le_of_ble_eq_true rfl⟩ rfl rfl (Nat.le_of_ble_eq_true rfl) ⟨Nat.zero_le _, Nat.zero_le _⟩ dX0_endOf_13 rfl ?_
  refine am_iconst F (v := (0 : Int32)) dX0_endOf_16 (by decide) ?_
  refine am_istore F [(5, .int (0 : Int32)), (4, .int (am_g M t1 3)), (0, .ref (z + 161)), (1, .ref (z + t1)), (2, .int a2), (3, .int a3)] dX0_endOf_17 (by decide) rfl ?_
  obtain ⟨x12, M13, h14, h⟩ := am_bE h
  refine am_sub (lv' := [(0, .ref (z + 161)), (2, .int a2), (3, .int a3), (4, .int (am_g M t1 3)), (5, .int (0 : Int32))]) [2, 4, 5, 1, 0] rfl (cl_X0_endOf_L19 F a2 a3 am_fu (am_g M t1 3) (0 : Int32) M5 x12 M13 h14 ?_)
  refine am_iload F 2 dX0_endOf_57 rfl ?_
  refine am_istore F [(5, .int x12), (0, .ref (z + 161)), (2, .int a2), (4, .int x12)] dX0_endOf_59 (by decide) rfl ?_
  obtain ⟨x23, M24, h25, h⟩ := am_bE h
  refine am_sub (lv' := [(0, .ref (z + 161)), (2, .int a2), (5, .int x12)]) [1, 2, 0] rfl (cl_X0_endOf_L61 F a2 am_fu x12 M13 x23 M24 h25 ⟨fun c26 => ?_, fun c26 => ?_⟩)
  · have h := (if_pos c26).symm.trans h
    refine am_iload F 0 dX0_endOf_87 rfl ?_
    exact am_iret F hr h dX0_endOf_89
  · have h := (if_neg (by rw [c26]; decide)).symm.trans h
    refine am_iconst F (v := (-1 : Int32)) dX0_endOf_96 (by decide) ?_
    exact am_iret F hr h dX0_endOf_97
/-! AisleScheduler.ticksOf(I)I -/
abbrev rm_X9_ticksOf : Room := { frames := 1, cells := 0, slots := 0, locals := 24 }
theorem yn_X9_ticksOf : am_yn yX9_ticksOf 1 := ⟨⟨by decide +kernel, by decide +kernel⟩, by decide +kernel⟩
def g_X9_ticksOf (a0 : Int32) (M : am_M) : Option (Int32 × am_M) := (if a0 < (5 : Int32) then (some ((1 : Int32), M)) else (some ((3 : Int32), M)))
set_option maxHeartbeats 4000000 in
set_option maxRecDepth 100000 in
theorem c_X9_ticksOf (l : Launch) (D : va_G) (E : Nat → ClassId) (z : Nat) (a0 : Int32) (M : am_M) (r0 : Int32) (M1 : am_M) (h : g_X9_ticksOf a0 M = some (r0, M1)) : am_Mi l yX9_ticksOf cX9_ticksOf 1 (some .int) rm_X9_ticksOf D E z [.int a0] M r0 M1 := by
  unfold g_X9_ticksOf at h
  refine am_of (own := RX9) (by decide +kernel) rfl (by exact Nat.le_of_ble_eq_true rfl) ?_
  intro p e s m args below meth c F hr
  show am_W p l e rm_X9_ticksOf s m args below meth c _ 1 D E z 0 0 M 0 [(0, .int a0)] []
  refine am_iload_n F 0 dX9_ticksOf_0 rfl rfl ?_
  refine am_iconst F (v := (5 : Int32)) dX9_ticksOf_1 (by decide) ?_
  refine am_icmp_lt F (tgt := 9) dX9_ticksOf_2 (by decide) (fun c1 => ?_) (fun c1 => ?_)
  · have h := (if_pos c1).symm.trans h
    refine am_iconst F (v := (1 : Int32)) dX9_ticksOf_9 (by decide) ?_
    exact am_iret F hr h dX9_ticksOf_10
  · have h := (if_neg c1).symm.trans h
    refine am_iconst F (v := (3 : Int32)) dX9_ticksOf_5 (by decide) ?_
    refine am_goto F (tgt := 10) dX9_ticksOf_6 (by decide) ?_
    exact am_iret F hr h dX9_ticksOf_10
/-! AisleScheduler.costOf(I)I -/
abbrev rm_X9_costOf : Room := { frames := 1, cells := 0, slots := 0, locals := 24 }
theorem yn_X9_costOf : am_yn yX9_costOf 1 := ⟨⟨by decide +kernel, by decide +kernel⟩, by decide +kernel⟩
def g_X9_costOf (a0 : Int32) (M : am_M) : Option (Int32 × am_M) := (if a0 < (5 : Int32) then (if a0 = (0 : Int32) then (some ((0 : Int32), M)) else (some ((1 : Int32), M))) else (some ((2 : Int32), M)))
set_option maxHeartbeats 4000000 in
set_option maxRecDepth 100000 in
theorem c_X9_costOf (l : Launch) (D : va_G) (E : Nat → ClassId) (z : Nat) (a0 : Int32) (M : am_M) (r0 : Int32) (M1 : am_M) (h : g_X9_costOf a0 M = some (r0, M1)) : am_Mi l yX9_costOf cX9_costOf 1 (some .int) rm_X9_costOf D E z [.int a0] M r0 M1 := by
  unfold g_X9_costOf at h
  refine am_of (own := RX9) (by decide +kernel) rfl (by exact Nat.le_of_ble_eq_true rfl) ?_
  intro p e s m args below meth c F hr
  show am_W p l e rm_X9_costOf s m args below meth c _ 1 D E z 0 0 M 0 [(0, .int a0)] []
  refine am_iload_n F 0 dX9_costOf_0 rfl rfl ?_
  refine am_iconst F (v := (5 : Int32)) dX9_costOf_1 (by decide) ?_
  refine am_icmp_lt F (tgt := 7) dX9_costOf_2 (by decide) (fun c2 => ?_) (fun c2 => ?_)
  · have h := (if_pos c2).symm.trans h
    refine am_iload_n F 0 dX9_costOf_7 rfl rfl ?_
    refine am_if_ne F (tgt := 15) dX9_costOf_8 (by decide) (fun c1 => ?_) (fun c1 => ?_)
    · have h := (if_neg c1).symm.trans h
      refine am_iconst F (v := (1 : Int32)) dX9_costOf_15 (by decide) ?_
      exact am_iret F hr h dX9_costOf_16
    · have h := (if_pos c1).symm.trans h
      refine am_iconst F (v := (0 : Int32)) dX9_costOf_11 (by decide) ?_
      refine am_goto F (tgt := 16) dX9_costOf_12 (by decide) ?_
      exact am_iret F hr h dX9_costOf_16
  · have h := (if_neg c2).symm.trans h
    refine am_iconst F (v := (2 : Int32)) dX9_costOf_5 (by decide) ?_
    exact am_iret F hr h dX9_costOf_6
/-! AisleScheduler$Finder.costThrough(IIII)I -/
abbrev rm_X0_costThrough : Room := { frames := 2, cells := 0, slots := 0, locals := 45 }
theorem yn_X0_costThrough : am_yn yX0_costThrough 4 := ⟨⟨by decide +kernel, by decide +kernel⟩, by decide +kernel⟩
def g_X0_costThrough (a1 : Int32) (a2 : Int32) (a3 : Int32) (a4 : Int32) (M : am_M) : Option (Int32 × am_M) := (am_b (g_X9_at (2 + 2) 280 ((a2 * (7 : Int32)) + a3) M) (fun v3 M2 => (am_b (g_X9_ticksOf a3 M2) (fun v6 M5 => (if v3 < (0 : Int32) then (some ((1000000 : Int32), M5)) else (if (a1 + v6) ≤ a4 then (am_b (g_X9_at 165 1240 (((a1 + v6) * (40 : Int32)) + v3) M5) (fun v9 M8 => (if (1000000 : Int32) ≤ v9 then (some ((1000000 : Int32), M8)) else (am_b (g_X9_maskAt 163 210 ((a1 * (7 : Int32)) + a3) M8) (fun v12 M11 => (am_b (g_X9_bit a2 M11) (fun v15 M14 => (if (lg_cmp (v12 &&& v15) (0 : Int64)) = (0 : Int32) then (am_b (g_X9_costOf a3 M14) (fun v18 M17 => (some ((v18 + v9), M17)))) else (some ((1000000 : Int32), M14)))))))))) else (some ((1000000 : Int32), M5))))))))
set_option maxHeartbeats 4000000 in
set_option maxRecDepth 100000 in
theorem c_X0_costThrough (l : Launch) (D : va_G) (E : Nat → ClassId) (z : Nat) (a1 : Int32) (a2 : Int32) (a3 : Int32) (a4 : Int32) (M : am_M) (r0 : Int32) (M1 : am_M) (h : g_X0_costThrough a1 a2 a3 a4 M = some (r0, M1)) : am_Mi l yX0_costThrough cX0_costThrough 8 (some .int) rm_X0_costThrough D E z [.ref (z + 161), .int a1, .int a2, .int a3, .int a4] M r0 M1 := by
  unfold g_X0_costThrough at h
  refine am_of (own := RX0) (by decide +kernel) rfl (by exact Nat.le_of_ble_eq_true rfl) ?_
  intro p e s m args below meth c F hr
  show am_W p l e rm_X0_costThrough s m args below meth c _ 8 D E z 0 0 M 0 [(0, .ref (z + 161)), (1, .int a1), (2, .int a2), (3, .int a3), (4, .int a4)] []
  refine am_aload_n F 0 dX0_costThrough_0 rfl rfl ?_
  refine gf_X0_25 F lyk_161 dX0_costThrough_1 ?_
  refine gf_X0_151 F lyk_2 dX0_costThrough_4 ?_
  refine am_iload_n F 2 dX0_costThrough_7 rfl rfl ?_
  refine am_bipush F (v := (7 : Int32)) dX0_costThrough_8 (by decide) ?_
  refine am_imul F dX0_costThrough_10 ?_
  refine am_iload_n F 3 dX0_costThrough_11 rfl rfl ?_
  refine am_iadd F dX0_costThrough_12 ?_
  obtain ⟨v3, M2, h1, h⟩ := am_bE h
  refine am_callSNi F [.ref (z + (2 + 2)), .int ((a2 * (7 : Int32)) + a3)] cw_X0_135  (c_X9_at l D E z (2 + 2) 280 (lyf_1_links lyk_2) ((a2 * (7 : Int32)) + a3) M v3 M2 h1) yn_X9_at rfl ⟨Nat.le_of_ble_eq_true rfl, Nat.le_of_ble_eq_true rfl⟩ rfl rfl (Nat.le_of_ble_eq_true rfl) ⟨Nat.zero_le _, Nat.zero_le _⟩ dX0_costThrough_13 rfl ?_
  refine am_istore F [(5, .int v3), (0, .ref (z + 161)), (1, .int a1), (2, .int a2), (3, .int a3), (4, .int a4)] dX0_costThrough_16 (by decide) rfl ?_
  refine am_iload_n F 2 dX0_costThrough_18 rfl rfl ?_
  refine am_iload_n F 4 dX0_costThrough_19 rfl rfl ?_
  obtain ⟨v6, M5, h4, h⟩ := am_bE h
  refine am_callSNi F [.int a3] cw_X0_154  (c_X9_ticksOf l D E z a3 M2 v6 M5 h4) yn_X9_ticksOf rfl ⟨Nat.le_of_ble_eq_true rfl, Nat.le_of_ble_eq_true rfl⟩ rfl rfl (Nat.le_of_ble_eq_true rfl) ⟨Nat.zero_le _, Nat.zero_le _⟩ dX0_costThrough_20 rfl ?_
  refine am_iadd F dX0_costThrough_23 ?_
  refine am_istore F [(6, .int (a1 + v6)), (5, .int v3), (0, .ref (z + 161)), (1, .int a1), (2, .int a2), (3, .int a3), (4, .int a4)] dX0_costThrough_24 (by decide) rfl ?_
  refine am_iload F 1 dX0_costThrough_26 rfl ?_
  refine am_if_lt F (tgt := 38) dX0_costThrough_28 (by decide) (fun c22 => ?_) (fun c22 => ?_)
  · have h := (if_pos c22).symm.trans h
    refine am_ldc F (v := (1000000 : Int32)) dX0_costThrough_38 wd_501 ?_
    exact am_iret F hr h dX0_costThrough_40
  · have h := (if_neg c22).symm.trans h
    refine am_iload F 0 dX0_costThrough_31 rfl ?_
    refine am_iload F 6 dX0_costThrough_33 rfl ?_
    refine am_icmp_le F (tgt := 41) dX0_costThrough_35 (by decide) (fun c21 => ?_) (fun c21 => ?_)
    · have h := (if_pos c21).symm.trans h
      refine am_aload_n F 2 dX0_costThrough_41 rfl rfl ?_
      refine gf_X0_21 F lyk_161 dX0_costThrough_42 ?_
      refine am_iload F 0 dX0_costThrough_45 rfl ?_
      refine am_bipush F (v := (40 : Int32)) dX0_costThrough_47 (by decide) ?_
      refine am_imul F dX0_costThrough_49 ?_
      refine am_iload F 1 dX0_costThrough_50 rfl ?_
      refine am_iadd F dX0_costThrough_52 ?_
      obtain ⟨v9, M8, h7, h⟩ := am_bE h
      refine am_callSNi F [.ref (z + 165), .int (((a1 + v6) * (40 : Int32)) + v3)] cw_X0_135  (c_X9_at l D E z 165 1240 lyk_165 (((a1 + v6) * (40 : Int32)) + v3) M5 v9 M8 h7) yn_X9_at rfl ⟨Nat.le_of_ble_eq_true rfl, Nat.le_of_ble_eq_true rfl⟩ rfl rfl (Nat.le_of_ble_eq_true rfl) ⟨Nat.zero_le _, Nat.zero_le _⟩ dX0_costThrough_53 rfl ?_
      refine am_istore F [(7, .int v9), (6, .int (a1 + v6)), (5, .int v3), (0, .ref (z + 161)), (1, .int a1), (2, .int a2), (3, .int a3), (4, .int a4)] dX0_costThrough_56 (by decide) rfl ?_
      refine am_iload F 0 dX0_costThrough_58 rfl ?_
      refine am_ldc F (v := (1000000 : Int32)) dX0_costThrough_60 wd_501 ?_
      refine am_icmp_ge F (tgt := 88) dX0_costThrough_62 (by decide) (fun c20 => ?_) (fun c20 => ?_)
      · have h := (if_pos c20).symm.trans h
        refine am_ldc F (v := (1000000 : Int32)) dX0_costThrough_88 wd_501 ?_
        exact am_iret F hr h dX0_costThrough_90
      · have h := (if_neg c20).symm.trans h
        refine am_aload_n F 3 dX0_costThrough_65 rfl rfl ?_
        refine gf_X0_15 F lyk_161 dX0_costThrough_66 ?_
        refine am_iload_n F 4 dX0_costThrough_69 rfl rfl ?_
        refine am_bipush F (v := (7 : Int32)) dX0_costThrough_70 (by decide) ?_
        refine am_imul F dX0_costThrough_72 ?_
        refine am_iload_n F 6 dX0_costThrough_73 rfl rfl ?_
        refine am_iadd F dX0_costThrough_74 ?_
        obtain ⟨v12, M11, h10, h⟩ := am_bE h
        refine am_callSNl F [.ref (z + 163), .int ((a1 * (7 : Int32)) + a3)] cw_X0_94  (c_X9_maskAt l D E z 163 210 lyk_163 ((a1 * (7 : Int32)) + a3) M8 v12 M11 h10) yn_X9_maskAt rfl ⟨Nat.le_of_ble_eq_true rfl, Nat.le_of_ble_eq_true rfl⟩ rfl rfl (Nat.le_of_ble_eq_true rfl) ⟨Nat.zero_le _, Nat.zero_le _⟩ dX0_costThrough_75 rfl ?_
        refine am_iload_n F 5 dX0_costThrough_78 rfl rfl ?_
        obtain ⟨v15, M14, h13, h⟩ := am_bE h
        refine am_callSNl F [.int a2] cw_X0_72  (c_X9_bit l D E z a2 M11 v15 M14 h13) yn_X9_bit rfl ⟨Nat.le_of_ble_eq_true rfl, Nat.le_of_ble_eq_true rfl⟩ rfl rfl (Nat.le_of_ble_eq_true rfl) ⟨Nat.zero_le _, Nat.zero_le _⟩ dX0_costThrough_79 rfl ?_
        refine am_land F dX0_costThrough_82 ?_
        refine am_lconst F (v := (0 : Int64)) dX0_costThrough_83 (by decide) ?_
        refine am_lcmp F dX0_costThrough_84 ?_
        refine am_if_eq F (tgt := 91) dX0_costThrough_85 (by decide) (fun c19 => ?_) (fun c19 => ?_)
        · have h := (if_pos c19).symm.trans h
          refine am_iload_n F 6 dX0_costThrough_91 rfl rfl ?_
          obtain ⟨v18, M17, h16, h⟩ := am_bE h
          refine am_callSNi F [.int a3] cw_X0_157  (c_X9_costOf l D E z a3 M14 v18 M17 h16) yn_X9_costOf rfl ⟨Nat.le_of_ble_eq_true rfl, Nat.le_of_ble_eq_true rfl⟩ rfl rfl (Nat.le_of_ble_eq_true rfl) ⟨Nat.zero_le _, Nat.zero_le _⟩ dX0_costThrough_92 rfl ?_
          refine am_iload F 0 dX0_costThrough_95 rfl ?_
          refine am_iadd F dX0_costThrough_97 ?_
          exact am_iret F hr h dX0_costThrough_98
        · have h := (if_neg c19).symm.trans h
          refine am_ldc F (v := (1000000 : Int32)) dX0_costThrough_88 wd_501 ?_
          exact am_iret F hr h dX0_costThrough_90
    · have h := (if_neg c21).symm.trans h
      refine am_ldc F (v := (1000000 : Int32)) dX0_costThrough_38 wd_501 ?_
      exact am_iret F hr h dX0_costThrough_40
/-! AisleScheduler$Finder.countCosts(III)V -/
abbrev rm_X0_countCosts : Room := { frames := 3, cells := 0, slots := 0, locals := 72 }
theorem yn_X0_countCosts : am_yn yX0_countCosts 3 := ⟨⟨by decide +kernel, by decide +kernel⟩, by decide +kernel⟩
def g_X0_countCosts_L3 (a1 : Int32) (a2 : Int32) (a3 : Int32) : Nat → Int32 → am_M → Option ((Unit) × am_M)
  | 0, _, _ => none
  | n + 1, a4, M => (if (40 : Int32) ≤ a4 then (some ((), M)) else (if a4 = a1 then (am_b (g_X9_put 165 1240 ((a3 * (40 : Int32)) + a4) (0 : Int32) M) (fun _ M4 => (g_X0_countCosts_L3 a1 a2 a3 n (a4 + (1 : Int32)) M4))) else (am_b (g_X9_put 165 1240 ((a3 * (40 : Int32)) + a4) (1000000 : Int32) M) (fun _ M2 => (g_X0_countCosts_L3 a1 a2 a3 n (a4 + (1 : Int32)) M2)))))
set_option maxHeartbeats 4000000 in
set_option maxRecDepth 100000 in
theorem cl_X0_countCosts_L3 {l : Launch} {p : Program} {e : Env} {s : State} {m : MethodId} {args : Array Value} {below : List Frame} {meth : Method} {c : Code} {Q : State → Prop} {D : va_G} {E : Nat → ClassId} {z : Nat} (F : am_F p s m args meth c cX0_countCosts 10 RX0 D E z) (a1 : Int32) (a2 : Int32) (a3 : Int32) : ∀ (n : Nat) (a4 : Int32) (M : am_M) (x : Unit) (M1 : am_M), g_X0_countCosts_L3 a1 a2 a3 n a4 M = some (x, M1) → (am_W p l e rm_X0_countCosts s m args below meth c Q 10 D E z 0 0 M1 42 [(0, .ref (z + 161)), (2, .int a2), (3, .int a3)] []) → am_W p l e rm_X0_countCosts s m args below meth c Q 10 D E z 0 0 M 3 [(0, .ref (z + 161)), (1, .int a1), (2, .int a2), (3, .int a3), (4, .int a4)] [] := by
  intro n
  induction n with
  | zero => intro a4 M x M1 h K; cases h
  | succ n ih =>
    intro a4 M x M1 h K
    rw [g_X0_countCosts_L3] at h
    refine am_iload F 4 dX0_countCosts_3 rfl ?_
    refine am_bipush F (v := (40 : Int32)) dX0_countCosts_5 (by decide) ?_
    refine am_icmp_ge F (tgt := 42) dX0_countCosts_7 (by decide) (fun c6 => ?_) (fun c6 => ?_)
    · have h := (if_pos c6).symm.trans h
      cases h
      exact am_sub (lv' := [(0, .ref (z + 161)), (2, .int a2), (3, .int a3)]) [0, 2, 3] rfl (K)
    · have h := (if_neg c6).symm.trans h
      refine am_aload_n F 0 dX0_countCosts_10 rfl rfl ?_
      refine gf_X0_21 F lyk_161 dX0_countCosts_11 ?_
      refine am_iload_n F 3 dX0_countCosts_14 rfl rfl ?_
      refine am_bipush F (v := (40 : Int32)) dX0_countCosts_15 (by decide) ?_
      refine am_imul F dX0_countCosts_17 ?_
      refine am_iload F 4 dX0_countCosts_18 rfl ?_
      refine am_iadd F dX0_countCosts_20 ?_
      refine am_iload F 4 dX0_countCosts_21 rfl ?_
      refine am_iload_n F 1 dX0_countCosts_23 rfl rfl ?_
      refine am_icmp_ne F (tgt := 31) dX0_countCosts_24 (by decide) (fun c5 => ?_) (fun c5 => ?_)
      · have h := (if_neg c5).symm.trans h
        refine am_ldc F (v := (1000000 : Int32)) dX0_countCosts_31 wd_501 ?_
        obtain ⟨_, M2, h1, h⟩ := am_bE h
        refine am_callSNv F [.ref (z + 165), .int ((a3 * (40 : Int32)) + a4), .int (1000000 : Int32)] cw_X0_140  (c_X9_put l D E z 165 1240 lyk_165 ((a3 * (40 : Int32)) + a4) (1000000 : Int32) M M2 h1) yn_X9_put rfl ⟨Nat.le_of_ble_eq_true rfl, Nat.le_of_ble_eq_true rfl⟩ rfl rfl (Nat.le_of_ble_eq_true rfl) ⟨Nat.zero_le _, Nat.zero_le _⟩ dX0_countCosts_33 rfl ?_
        refine am_iinc F [(4, .int (a4 + (1 : Int32))), (0, .ref (z + 161)), (1, .int a1), (2, .int a2), (3, .int a3)] 4 dX0_countCosts_36 (by decide) rfl rfl rfl ?_
        refine am_goto F (tgt := 3) dX0_countCosts_39 (by decide) ?_
        exact am_sub (lv' := [(0, .ref (z + 161)), (1, .int a1), (2, .int a2), (3, .int a3), (4, .int (a4 + (1 : Int32)))]) [1, 2, 3, 4, 0] rfl (ih (a4 + (1 : Int32)) M2 _ _ h K)
      · have h := (if_pos c5).symm.trans h
        refine am_iconst F (v := (0 : Int32)) dX0_countCosts_27 (by decide) ?_
        refine am_goto F (tgt := 33) dX0_countCosts_28 (by decide) ?_
        obtain ⟨_, M4, h3, h⟩ := am_bE h
        refine am_callSNv F [.ref (z + 165), .int ((a3 * (40 : Int32)) + a4), .int (0 : Int32)] cw_X0_140  (c_X9_put l D E z 165 1240 lyk_165 ((a3 * (40 : Int32)) + a4) (0 : Int32) M M4 h3) yn_X9_put rfl ⟨Nat.le_of_ble_eq_true rfl, Nat.le_of_ble_eq_true rfl⟩ rfl rfl (Nat.le_of_ble_eq_true rfl) ⟨Nat.zero_le _, Nat.zero_le _⟩ dX0_countCosts_33 rfl ?_
        refine am_iinc F [(4, .int (a4 + (1 : Int32))), (0, .ref (z + 161)), (1, .int a1), (2, .int a2), (3, .int a3)] 4 dX0_countCosts_36 (by decide) rfl rfl rfl ?_
        refine am_goto F (tgt := 3) dX0_countCosts_39 (by decide) ?_
        exact am_sub (lv' := [(0, .ref (z + 161)), (1, .int a1), (2, .int a2), (3, .int a3), (4, .int (a4 + (1 : Int32)))]) [1, 2, 3, 4, 0] rfl (ih (a4 + (1 : Int32)) M4 _ _ h K)
def g_X0_countCosts_L81 (a2 : Int32) (a3 : Int32) (a4 : Int32) (a5 : Int64) (a7 : Int32) : Nat → Int32 → Int32 → am_M → Option ((Int32) × am_M)
  | 0, _, _, _ => none
  | n + 1, a8, a9, M => (am_b (g_X9_bit a7 M) (fun v15 M14 => (if (lg_cmp (a5 &&& v15) (0 : Int64)) = (0 : Int32) then (some (a8, M14)) else (if (7 : Int32) ≤ a9 then (some (a8, M14)) else (am_b (g_X0_costThrough a4 a7 a9 a3 M14) (fun v18 M17 => (g_X0_countCosts_L81 a2 a3 a4 a5 a7 n (if v18 < a8 then v18 else a8) (a9 + (1 : Int32)) M17)))))))
set_option maxHeartbeats 4000000 in
set_option maxRecDepth 100000 in
theorem cl_X0_countCosts_L81 {l : Launch} {p : Program} {e : Env} {s : State} {m : MethodId} {args : Array Value} {below : List Frame} {meth : Method} {c : Code} {Q : State → Prop} {D : va_G} {E : Nat → ClassId} {z : Nat} (F : am_F p s m args meth c cX0_countCosts 10 RX0 D E z) (a2 : Int32) (a3 : Int32) (a4 : Int32) (a5 : Int64) (a7 : Int32) : ∀ (n : Nat) (a8 : Int32) (a9 : Int32) (M : am_M) (x : Int32) (M1 : am_M), g_X0_countCosts_L81 a2 a3 a4 a5 a7 n a8 a9 M = some (x, M1) → (am_W p l e rm_X0_countCosts s m args below meth c Q 10 D E z 0 0 M1 125 [(0, .ref (z + 161)), (2, .int a2), (3, .int a3), (4, .int a4), (5, .long a5), (7, .int a7), (8, .int x)] []) → am_W p l e rm_X0_countCosts s m args below meth c Q 10 D E z 0 0 M 81 [(0, .ref (z + 161)), (2, .int a2), (3, .int a3), (4, .int a4), (5, .long a5), (7, .int a7), (8, .int a8), (9, .int a9)] [] := by
  intro n
  induction n with
  | zero => intro a8 a9 M x M1 h K; cases h
  | succ n ih =>
    intro a8 a9 M x M1 h K
    rw [g_X0_countCosts_L81] at h
    refine am_lload F 4 dX0_countCosts_81 rfl ?_
    refine am_iload F 5 dX0_countCosts_83 rfl ?_
    obtain ⟨v15, M14, h13, h⟩ := am_bE h
    refine am_callSNl F [.int a7] cw_X0_72  (c_X9_bit l D E z a7 M v15 M14 h13) yn_X9_bit rfl ⟨Nat.le_of_ble_eq_true rfl, Nat.le_of_ble_eq_true rfl⟩ rfl rfl (Nat.le_of_ble_eq_true rfl) ⟨Nat.zero_le _, Nat.zero_le _⟩ dX0_countCosts_85 rfl ?_
    refine am_land F dX0_countCosts_88 ?_
    refine am_lconst F (v := (0 : Int64)) dX0_countCosts_89 (by decide) ?_
    refine am_lcmp F dX0_countCosts_90 ?_
    refine am_if_eq F (tgt := 125) dX0_countCosts_91 (by decide) (fun c20 => ?_) (fun c20 => ?_)
    · have h := (if_pos c20).symm.trans h
      cases h
      exact am_sub (lv' := [(0, .ref (z + 161)), (2, .int a2), (3, .int a3), (4, .int a4), (5, .long a5), (7, .int a7), (8, .int a8)]) [0, 1, 2, 3, 4, 5, 6] rfl (K)
    · have h := (if_neg c20).symm.trans h
      refine am_iload F 7 dX0_countCosts_94 rfl ?_
      refine am_bipush F (v := (7 : Int32)) dX0_countCosts_96 (by decide) ?_
      refine am_icmp_ge F (tgt := 125) dX0_countCosts_98 (by decide) (fun c19 => ?_) (fun c19 => ?_)
      · have h := (if_pos c19).symm.trans h
        cases h
        exact am_sub (lv' := [(0, .ref (z + 161)), (2, .int a2), (3, .int a3), (4, .int a4), (5, .long a5), (7, .int a7), (8, .int a8)]) [0, 1, 2, 3, 4, 5, 6] rfl (K)
      · have h := (if_neg c19).symm.trans h
        refine am_iload F 6 dX0_countCosts_101 rfl ?_
        refine am_aload_n F 0 dX0_countCosts_103 rfl rfl ?_
        refine am_iload F 3 dX0_countCosts_104 rfl ?_
        refine am_iload F 5 dX0_countCosts_106 rfl ?_
        refine am_iload F 7 dX0_countCosts_108 rfl ?_
        refine am_iload_n F 2 dX0_countCosts_110 rfl rfl ?_
        obtain ⟨v18, M17, h16, h⟩ := am_bE h
        refine am_callVi F [.int a4, .int a7, .int a9, .int a3] lyk_161 (by decide) rfl cw_X0_144 (c_X0_costThrough l D E z a4 a7 a9 a3 M14 v18 M17 h16) yn_X0_costThrough rfl ⟨Nat.le_of_ble_eq_true rfl, Nat.le_of_ble_eq_true rfl⟩ rfl rfl (Nat.le_of_ble_eq_true rfl) ⟨Nat.zero_le _, Nat.zero_le _⟩ dX0_countCosts_111 rfl ?_
        refine am_min F dX0_countCosts_114 wd_513 (Nat.le_of_ble_eq_true rfl) (Nat.le_of_ble_eq_true rfl) (Nat.le_of_ble_eq_true rfl) (Nat.le_of_ble_eq_true rfl) ?_
        refine am_istore F [(8, .int (if v18 < a8 then v18 else a8)), (0, .ref (z + 161)), (2, .int a2), (3, .int a3), (4, .int a4), (5, .long a5), (7, .int a7), (9, .int a9)] dX0_countCosts_117 (by decide) rfl ?_
        refine am_iinc F [(9, .int (a9 + (1 : Int32))), (8, .int (if v18 < a8 then v18 else a8)), (0, .ref (z + 161)), (2, .int a2), (3, .int a3), (4, .int a4), (5, .long a5), (7, .int a7)] 7 dX0_countCosts_119 (by decide) rfl rfl rfl ?_
        refine am_goto F (tgt := 81) dX0_countCosts_122 (by decide) ?_
        exact am_sub (lv' := [(0, .ref (z + 161)), (2, .int a2), (3, .int a3), (4, .int a4), (5, .long a5), (7, .int a7), (8, .int (if v18 < a8 then v18 else a8)), (9, .int (a9 + (1 : Int32)))]) [2, 3, 4, 5, 6, 7, 1, 0] rfl (ih (if v18 < a8 then v18 else a8) (a9 + (1 : Int32)) M17 _ _ h K)
def g_X0_countCosts_L67 (a2 : Int32) (a3 : Int32) (a4 : Int32) (a5 : Int64) : Nat → Int32 → am_M → Option ((Unit) × am_M)
  | 0, _, _ => none
  | n + 1, a7, M => (if (40 : Int32) ≤ a7 then (some ((), M)) else (am_b (g_X0_countCosts_L81 a2 a3 a4 a5 a7 am_fu (1000000 : Int32) (0 : Int32) M) (fun x21 M22 => (am_b (g_X9_put 165 1240 ((a4 * (40 : Int32)) + a7) x21 M22) (fun _ M25 => (g_X0_countCosts_L67 a2 a3 a4 a5 n (a7 + (1 : Int32)) M25))))))
set_option maxHeartbeats 4000000 in
set_option maxRecDepth 100000 in
theorem cl_X0_countCosts_L67 {l : Launch} {p : Program} {e : Env} {s : State} {m : MethodId} {args : Array Value} {below : List Frame} {meth : Method} {c : Code} {Q : State → Prop} {D : va_G} {E : Nat → ClassId} {z : Nat} (F : am_F p s m args meth c cX0_countCosts 10 RX0 D E z) (a2 : Int32) (a3 : Int32) (a4 : Int32) (a5 : Int64) : ∀ (n : Nat) (a7 : Int32) (M : am_M) (x : Unit) (M1 : am_M), g_X0_countCosts_L67 a2 a3 a4 a5 n a7 M = some (x, M1) → (am_W p l e rm_X0_countCosts s m args below meth c Q 10 D E z 0 0 M1 148 [(0, .ref (z + 161)), (2, .int a2), (3, .int a3), (4, .int a4)] []) → am_W p l e rm_X0_countCosts s m args below meth c Q 10 D E z 0 0 M 67 [(0, .ref (z + 161)), (2, .int a2), (3, .int a3), (4, .int a4), (5, .long a5), (7, .int a7)] [] := by
  intro n
  induction n with
  | zero => intro a7 M x M1 h K; cases h
  | succ n ih =>
    intro a7 M x M1 h K
    rw [g_X0_countCosts_L67] at h
    refine am_iload F 5 dX0_countCosts_67 rfl ?_
    refine am_bipush F (v := (40 : Int32)) dX0_countCosts_69 (by decide) ?_
    refine am_icmp_ge F (tgt := 148) dX0_countCosts_71 (by decide) (fun c26 => ?_) (fun c26 => ?_)
    · have h := (if_pos c26).symm.trans h
      cases h
      exact am_sub (lv' := [(0, .ref (z + 161)), (2, .int a2), (3, .int a3), (4, .int a4)]) [0, 1, 2, 3] rfl (K)
    · have h := (if_neg c26).symm.trans h
      refine am_ldc F (v := (1000000 : Int32)) dX0_countCosts_74 wd_501 ?_
      refine am_istore F [(8, .int (1000000 : Int32)), (0, .ref (z + 161)), (2, .int a2), (3, .int a3), (4, .int a4), (5, .long a5), (7, .int a7)] dX0_countCosts_76 (by decide) rfl ?_
      refine am_iconst F (v := (0 : Int32)) dX0_countCosts_78 (by decide) ?_
      refine am_istore F [(9, .int (0 : Int32)), (8, .int (1000000 : Int32)), (0, .ref (z + 161)), (2, .int a2), (3, .int a3), (4, .int a4), (5, .long a5), (7, .int a7)] dX0_countCosts_79 (by decide) rfl ?_
      obtain ⟨x21, M22, h23, h⟩ := am_bE h
      refine am_sub (lv' := [(0, .ref (z + 161)), (2, .int a2), (3, .int a3), (4, .int a4), (5, .long a5), (7, .int a7), (8, .int (1000000 : Int32)), (9, .int (0 : Int32))]) [2, 3, 4, 5, 6, 7, 1, 0] rfl (cl_X0_countCosts_L81 F a2 a3 a4 a5 a7 am_fu (1000000 : Int32) (0 : Int32) M x21 M22 h23 ?_)
      refine am_aload_n F 0 dX0_countCosts_125 rfl rfl ?_
      refine gf_X0_21 F lyk_161 dX0_countCosts_126 ?_
      refine am_iload F 3 dX0_countCosts_129 rfl ?_
      refine am_bipush F (v := (40 : Int32)) dX0_countCosts_131 (by decide) ?_
      refine am_imul F dX0_countCosts_133 ?_
      refine am_iload F 5 dX0_countCosts_134 rfl ?_
      refine am_iadd F dX0_countCosts_136 ?_
      refine am_iload F 6 dX0_countCosts_137 rfl ?_
      obtain ⟨_, M25, h24, h⟩ := am_bE h
      refine am_callSNv F [.ref (z + 165), .int ((a4 * (40 : Int32)) + a7), .int x21] cw_X0_140  (c_X9_put l D E z 165 1240 lyk_165 ((a4 * (40 : Int32)) + a7) x21 M22 M25 h24) yn_X9_put rfl ⟨Nat.le_of_ble_eq_true rfl, Nat.le_of_ble_eq_true rfl⟩ rfl rfl (Nat.le_of_ble_eq_true rfl) ⟨Nat.zero_le _, Nat.zero_le _⟩ dX0_countCosts_139 rfl ?_
      refine am_iinc F [(7, .int (a7 + (1 : Int32))), (0, .ref (z + 161)), (2, .int a2), (3, .int a3), (4, .int a4), (5, .long a5), (8, .int x21)] 5 dX0_countCosts_142 (by decide) rfl rfl rfl ?_
      refine am_goto F (tgt := 67) dX0_countCosts_145 (by decide) ?_
      exact am_sub (lv' := [(0, .ref (z + 161)), (2, .int a2), (3, .int a3), (4, .int a4), (5, .long a5), (7, .int (a7 + (1 : Int32)))]) [1, 2, 3, 4, 5, 0] rfl (ih (a7 + (1 : Int32)) M25 _ _ h K)
def g_X0_countCosts_L47 (a2 : Int32) (a3 : Int32) : Nat → Int32 → am_M → Option ((Unit) × am_M)
  | 0, _, _ => none
  | n + 1, a4, M => (if a4 < a2 then (some ((), M)) else (am_b (g_X9_maskAt 164 31 a4 M) (fun v12 M11 => (am_b (g_X0_countCosts_L67 a2 a3 a4 v12 am_fu (0 : Int32) M11) (fun x27 M28 => (g_X0_countCosts_L47 a2 a3 n (a4 + (-1 : Int32)) M28))))))
set_option maxHeartbeats 4000000 in
set_option maxRecDepth 100000 in
theorem cl_X0_countCosts_L47 {l : Launch} {p : Program} {e : Env} {s : State} {m : MethodId} {args : Array Value} {below : List Frame} {meth : Method} {c : Code} {Q : State → Prop} {D : va_G} {E : Nat → ClassId} {z : Nat} (F : am_F p s m args meth c cX0_countCosts 10 RX0 D E z) (a2 : Int32) (a3 : Int32) : ∀ (n : Nat) (a4 : Int32) (M : am_M) (x : Unit) (M1 : am_M), g_X0_countCosts_L47 a2 a3 n a4 M = some (x, M1) → (am_W p l e rm_X0_countCosts s m args below meth c Q 10 D E z 0 0 M1 154 [] []) → am_W p l e rm_X0_countCosts s m args below meth c Q 10 D E z 0 0 M 47 [(0, .ref (z + 161)), (2, .int a2), (3, .int a3), (4, .int a4)] [] := by
  intro n
  induction n with
  | zero => intro a4 M x M1 h K; cases h
  | succ n ih =>
    intro a4 M x M1 h K
    rw [g_X0_countCosts_L47] at h
    refine am_iload F 3 dX0_countCosts_47 rfl ?_
    refine am_iload_n F 1 dX0_countCosts_49 rfl rfl ?_
    refine am_icmp_lt F (tgt := 154) dX0_countCosts_50 (by decide) (fun c30 => ?_) (fun c30 => ?_)
    · have h := (if_pos c30).symm.trans h
      cases h
      exact am_sub (lv' := []) [] rfl (K)
    · have h := (if_neg c30).symm.trans h
      refine am_aload_n F 0 dX0_countCosts_53 rfl rfl ?_
      refine gf_X0_18 F lyk_161 dX0_countCosts_54 ?_
      refine am_iload F 3 dX0_countCosts_57 rfl ?_
      obtain ⟨v12, M11, h10, h⟩ := am_bE h
      refine am_callSNl F [.ref (z + 164), .int a4] cw_X0_94  (c_X9_maskAt l D E z 164 31 lyk_164 a4 M v12 M11 h10) yn_X9_maskAt rfl ⟨Nat.le_of_ble_eq_true rfl, Nat.le_of_ble_eq_true rfl⟩ rfl rfl (Nat.le_of_ble_eq_true rfl) ⟨Nat.zero_le _, Nat.zero_le _⟩ dX0_countCosts_59 rfl ?_
      refine am_lstore F [(5, .long v12), (0, .ref (z + 161)), (2, .int a2), (3, .int a3), (4, .int a4)] dX0_countCosts_62 (by decide) rfl ?_
      refine am_iconst F (v := (0 : Int32)) dX0_countCosts_64 (by decide) ?_
      refine am_istore F [(7, .int (0 : Int32)), (5, .long v12), (0, .ref (z + 161)), (2, .int a2), (3, .int a3), (4, .int a4)] dX0_countCosts_65 (by decide) rfl ?_
      obtain ⟨x27, M28, h29, h⟩ := am_bE h
      refine am_sub (lv' := [(0, .ref (z + 161)), (2, .int a2), (3, .int a3), (4, .int a4), (5, .long v12), (7, .int (0 : Int32))]) [2, 3, 4, 5, 1, 0] rfl (cl_X0_countCosts_L67 F a2 a3 a4 v12 am_fu (0 : Int32) M11 x27 M28 h29 ?_)
      refine am_iinc F [(4, .int (a4 + (-1 : Int32))), (0, .ref (z + 161)), (2, .int a2), (3, .int a3)] 3 dX0_countCosts_148 (by decide) rfl rfl rfl ?_
      refine am_goto F (tgt := 47) dX0_countCosts_151 (by decide) ?_
      exact am_sub (lv' := [(0, .ref (z + 161)), (2, .int a2), (3, .int a3), (4, .int (a4 + (-1 : Int32)))]) [1, 2, 3, 0] rfl (ih (a4 + (-1 : Int32)) M28 _ _ h K)
def g_X0_countCosts (a1 : Int32) (a2 : Int32) (a3 : Int32) (M : am_M) : Option (Unit × am_M) := (am_b (g_X0_countCosts_L3 a1 a2 a3 am_fu (0 : Int32) M) (fun x7 M8 => (am_b (g_X0_countCosts_L47 a2 a3 am_fu (a3 - (1 : Int32)) M8) (fun x31 M32 => (some ((), M32))))))
set_option maxHeartbeats 4000000 in
set_option maxRecDepth 100000 in
theorem c_X0_countCosts (l : Launch) (D : va_G) (E : Nat → ClassId) (z : Nat) (a1 : Int32) (a2 : Int32) (a3 : Int32) (M : am_M)  (M1 : am_M) (h : g_X0_countCosts a1 a2 a3 M = some ((), M1)) : am_Mv l yX0_countCosts cX0_countCosts 10 none rm_X0_countCosts D E z [.ref (z + 161), .int a1, .int a2, .int a3] M M1 := by
  unfold g_X0_countCosts at h
  refine am_of (own := RX0) (by decide +kernel) rfl (by exact Nat.le_of_ble_eq_true rfl) ?_
  intro p e s m args below meth c F hr
  show am_W p l e rm_X0_countCosts s m args below meth c _ 10 D E z 0 0 M 0 [(0, .ref (z + 161)), (1, .int a1), (2, .int a2), (3, .int a3)] []
  refine am_iconst F (v := (0 : Int32)) dX0_countCosts_0 (by decide) ?_
  refine am_istore F [(4, .int (0 : Int32)), (0, .ref (z + 161)), (1, .int a1), (2, .int a2), (3, .int a3)] dX0_countCosts_1 (by decide) rfl ?_
  obtain ⟨x7, M8, h9, h⟩ := am_bE h
  refine am_sub (lv' := [(0, .ref (z + 161)), (1, .int a1), (2, .int a2), (3, .int a3), (4, .int (0 : Int32))]) [1, 2, 3, 4, 0] rfl (cl_X0_countCosts_L3 F a1 a2 a3 am_fu (0 : Int32) M x7 M8 h9 ?_)
  refine am_iload_n F 2 dX0_countCosts_42 rfl rfl ?_
  refine am_iconst F (v := (1 : Int32)) dX0_countCosts_43 (by decide) ?_
  refine am_isub F dX0_countCosts_44 ?_
  refine am_istore F [(4, .int (a3 - (1 : Int32))), (0, .ref (z + 161)), (2, .int a2), (3, .int a3)] dX0_countCosts_45 (by decide) rfl ?_
  obtain ⟨x31, M32, h33, h⟩ := am_bE h
  refine am_sub (lv' := [(0, .ref (z + 161)), (2, .int a2), (3, .int a3), (4, .int (a3 - (1 : Int32)))]) [1, 2, 3, 0] rfl (cl_X0_countCosts_L47 F a2 a3 am_fu (a3 - (1 : Int32)) M8 x31 M32 h33 ?_)
  exact am_vret F hr h dX0_countCosts_154
