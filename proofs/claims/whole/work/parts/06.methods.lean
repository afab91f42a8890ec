/-! AisleScheduler$World.robotOf(I)LAisleScheduler$Robot; -/
abbrev rm_X8_robotOf : Room := { frames := 1, cells := 0, slots := 0, locals := 24 }
theorem yn_X8_robotOf : am_yn yX8_robotOf 1 := ⟨⟨by decide +kernel, by decide +kernel⟩, by decide +kernel⟩
def g_X8_robotOf (t0 : Nat) (a1 : Int32) (M : am_M) : Option (Nat × am_M) := (if a1 < (0 : Int32) then (some ((t0 + 9), M)) else (if (5 : Int32) ≤ a1 then (some ((t0 + 9), M)) else (am_ci a1 5 (some (((t0 + 7) + 8 + 5 * a1.toNatClampNeg), M)))))
set_option maxHeartbeats 4000000 in
set_option maxRecDepth 100000 in
theorem c_X8_robotOf (l : Launch) (D : va_G) (E : Nat → ClassId) (z : Nat) (t0 : Nat) (h0 : am_ly t0 = (8, 0)) (a1 : Int32) (M : am_M) (r0 : Nat) (M1 : am_M) (h : g_X8_robotOf t0 a1 M = some (r0, M1)) : am_Mr l yX8_robotOf cX8_robotOf 3 (some (.object "AisleScheduler$Robot")) rm_X8_robotOf D E z [.ref (z + t0), .int a1] M r0 M1 := by
  unfold g_X8_robotOf at h
  refine am_of (own := RX8) (by decide +kernel) rfl (by exact Nat.le_of_ble_eq_true rfl) ?_
  intro p e s m args below meth c F hr
  show am_W p l e rm_X8_robotOf s m args below meth c _ 3 D E z 0 0 M 0 [(0, .ref (z + t0)), (1, .int a1)] []
  refine am_iload_n F 1 dX8_robotOf_0 rfl rfl ?_
  refine am_if_lt F (tgt := 22) dX8_robotOf_1 (by decide) (fun c3 => ?_) (fun c3 => ?_)
  · have h := (if_pos c3).symm.trans h
    refine am_null F dX8_robotOf_22 ?_
    refine am_astore_nN F [(2, .null), (0, .ref (z + t0)), (1, .int a1)] dX8_robotOf_23 rfl (by decide) rfl ?_
    refine am_aload_nN F 0 dX8_robotOf_24 rfl rfl ?_
    refine am_ifnonnullN F dX8_robotOf_25 ?_
    refine am_aload_n F 1 dX8_robotOf_28 rfl rfl ?_
    refine gf_X8_35 F h0 dX8_robotOf_29 ?_
    refine am_goto F (tgt := 36) dX8_robotOf_32 (by decide) ?_
    exact am_aret F hr h dX8_robotOf_36
  · have h := (if_neg c3).symm.trans h
    refine am_iload_n F 1 dX8_robotOf_4 rfl rfl ?_
    refine am_aload_n F 0 dX8_robotOf_5 rfl rfl ?_
    refine gf_X8_24 F h0 dX8_robotOf_6 ?_
    refine am_alen F (lyf_8_robots h0) (by decide) (by decide) (t0 := 2) rfl (v := (5 : Int32)) (by decide) dX8_robotOf_9 ?_
    refine am_icmp_ge F (tgt := 22) dX8_robotOf_10 (by decide) (fun c2 => ?_) (fun c2 => ?_)
    · have h := (if_pos c2).symm.trans h
      refine am_null F dX8_robotOf_22 ?_
      refine am_astore_nN F [(2, .null), (0, .ref (z + t0)), (1, .int a1)] dX8_robotOf_23 rfl (by decide) rfl ?_
      refine am_aload_nN F 0 dX8_robotOf_24 rfl rfl ?_
      refine am_ifnonnullN F dX8_robotOf_25 ?_
      refine am_aload_n F 1 dX8_robotOf_28 rfl rfl ?_
      refine gf_X8_35 F h0 dX8_robotOf_29 ?_
      refine am_goto F (tgt := 36) dX8_robotOf_32 (by decide) ?_
      exact am_aret F hr h dX8_robotOf_36
    · have h := (if_neg c2).symm.trans h
      refine am_aload_n F 0 dX8_robotOf_13 rfl rfl ?_
      refine gf_X8_24 F h0 dX8_robotOf_14 ?_
      refine am_iload_n F 1 dX8_robotOf_17 rfl rfl ?_
      obtain ⟨q1, h⟩ := am_ciE h
      refine am_aldq F 2 (fun j => (t0 + 7) + 8 + 5 * j) (lyf_8_robots h0) (by decide) (by decide) rfl rfl q1 dX8_robotOf_18 ?_
      refine am_goto F (tgt := 23) dX8_robotOf_19 (by decide) ?_
      refine am_astore_n F [(2, .ref (z + ((t0 + 7) + 8 + 5 * a1.toNatClampNeg))), (0, .ref (z + t0)), (1, .int a1)] dX8_robotOf_23 rfl (by decide) rfl ?_
      refine am_aload_n F 0 dX8_robotOf_24 rfl rfl ?_
      refine am_ifnonnull F (tgt := 35) dX8_robotOf_25 (by decide) ?_
      refine am_aload_n F 0 dX8_robotOf_35 rfl rfl ?_
      exact am_aret F hr h dX8_robotOf_36
/-! AisleScheduler.at([II)I -/
abbrev rm_X9_at : Room := { frames := 1, cells := 0, slots := 0, locals := 24 }
theorem yn_X9_at : am_yn yX9_at 2 := ⟨⟨by decide +kernel, by decide +kernel⟩, by decide +kernel⟩
def g_X9_at (t0 n0 : Nat) (a1 : Int32) (M : am_M) : Option (Int32 × am_M) := (if a1 < (0 : Int32) then (some ((0 : Int32), M)) else (if (Int32.ofNat n0) ≤ a1 then (some ((0 : Int32), M)) else (am_ci a1 n0 (some ((am_g M t0 a1.toNatClampNeg), M)))))
set_option maxHeartbeats 4000000 in
set_option maxRecDepth 100000 in
theorem c_X9_at (l : Launch) (D : va_G) (E : Nat → ClassId) (z : Nat) (t0 n0 : Nat) (h0 : am_ly t0 = (20, n0)) (a1 : Int32) (M : am_M) (r0 : Int32) (M1 : am_M) (h : g_X9_at t0 n0 a1 M = some (r0, M1)) : am_Mi l yX9_at cX9_at 2 (some .int) rm_X9_at D E z [.ref (z + t0), .int a1] M r0 M1 := by
  unfold g_X9_at at h
  refine am_of (own := RX9) (by decide +kernel) rfl (by exact Nat.le_of_ble_eq_true rfl) ?_
  intro p e s m args below meth c F hr
  show am_W p l e rm_X9_at s m args below meth c _ 2 D E z 0 0 M 0 [(0, .ref (z + t0)), (1, .int a1)] []
  refine am_iload_n F 1 dX9_at_0 rfl rfl ?_
  refine am_if_lt F (tgt := 16) dX9_at_1 (by decide) (fun c3 => ?_) (fun c3 => ?_)
  · have h := (if_pos c3).symm.trans h
    refine am_iconst F (v := (0 : Int32)) dX9_at_16 (by decide) ?_
    exact am_iret F hr h dX9_at_17
  · have h := (if_neg c3).symm.trans h
    refine am_iload_n F 1 dX9_at_4 rfl rfl ?_
    refine am_aload_n F 0 dX9_at_5 rfl rfl ?_
    refine am_alen F h0 (by decide) (by decide) (t0 := 0) rfl (v := (Int32.ofNat n0)) rfl dX9_at_6 ?_
    refine am_icmp_ge F (tgt := 16) dX9_at_7 (by decide) (fun c2 => ?_) (fun c2 => ?_)
    · have h := (if_pos c2).symm.trans h
      refine am_iconst F (v := (0 : Int32)) dX9_at_16 (by decide) ?_
      exact am_iret F hr h dX9_at_17
    · have h := (if_neg c2).symm.trans h
      refine am_aload_n F 0 dX9_at_10 rfl rfl ?_
      refine am_iload_n F 1 dX9_at_11 rfl rfl ?_
      obtain ⟨q1, h⟩ := am_ciE h
      refine am_iald F h0 q1 dX9_at_12 ?_
      refine am_goto F (tgt := 17) dX9_at_13 (by decide) ?_
      exact am_iret F hr h dX9_at_17
/-! AisleScheduler$Plan.placeAt(I)I -/
abbrev rm_X2_placeAt : Room := { frames := 2, cells := 0, slots := 0, locals := 45 }
theorem yn_X2_placeAt : am_yn yX2_placeAt 1 := ⟨⟨by decide +kernel, by decide +kernel⟩, by decide +kernel⟩
def g_X2_placeAt (t0 : Nat) (a1 : Int32) (M : am_M) : Option (Int32 × am_M) := (am_b (g_X9_at (t0 + 2) 31 (if (0 : Int32) < (if (am_g M t0 3) < (a1 - (am_g M t0 2)) then (am_g M t0 3) else (a1 - (am_g M t0 2))) then (if (am_g M t0 3) < (a1 - (am_g M t0 2)) then (am_g M t0 3) else (a1 - (am_g M t0 2))) else (0 : Int32)) M) (fun v3 M2 => (some (v3, M2))))
set_option maxHeartbeats 4000000 in
set_option maxRecDepth 100000 in
theorem c_X2_placeAt (l : Launch) (D : va_G) (E : Nat → ClassId) (z : Nat) (t0 : Nat) (h0 : am_ly t0 = (2, 0)) (a1 : Int32) (M : am_M) (r0 : Int32) (M1 : am_M) (h : g_X2_placeAt t0 a1 M = some (r0, M1)) : am_Mi l yX2_placeAt cX2_placeAt 2 (some .int) rm_X2_placeAt D E z [.ref (z + t0), .int a1] M r0 M1 := by
  unfold g_X2_placeAt at h
  refine am_of (own := RX2) (by decide +kernel) rfl (by exact Nat.le_of_ble_eq_true rfl) ?_
  intro p e s m args below meth c F hr
  show am_W p l e rm_X2_placeAt s m args below meth c _ 2 D E z 0 0 M 0 [(0, .ref (z + t0)), (1, .int a1)] []
  refine am_aload_n F 0 dX2_placeAt_0 rfl rfl ?_
  refine gf_X2_15 F h0 dX2_placeAt_1 ?_
  refine am_iconst F (v := (0 : Int32)) dX2_placeAt_4 (by decide) ?_
  refine am_iload_n F 1 dX2_placeAt_5 rfl rfl ?_
  refine am_aload_n F 0 dX2_placeAt_6 rfl rfl ?_
  refine gf_X2_22 F h0 dX2_placeAt_7 ?_
  refine am_isub F dX2_placeAt_10 ?_
  refine am_aload_n F 0 dX2_placeAt_11 rfl rfl ?_
  refine gf_X2_26 F h0 dX2_placeAt_12 ?_
  refine am_min F dX2_placeAt_15 wd_416 (Nat.le_of_ble_eq_true rfl) (Nat.le_of_ble_eq_true rfl) (Nat.zero_le _) (Nat.zero_le _) ?_
  refine am_max F dX2_placeAt_18 wd_400 (Nat.le_of_ble_eq_true rfl) (Nat.le_of_ble_eq_true rfl) (Nat.zero_le _) (Nat.zero_le _) ?_
  obtain ⟨v3, M2, h1, h⟩ := am_bE h
  refine am_callSNi F [.ref (z + (t0 + 2)), .int (if (0 : Int32) < (if (am_g M t0 3) < (a1 - (am_g M t0 2)) then (am_g M t0 3) else (a1 - (am_g M t0 2))) then (if (am_g M t0 3) < (a1 - (am_g M t0 2)) then (am_g M t0 3) else (a1 - (am_g M t0 2))) else (0 : Int32))] cw_X2_43  (c_X9_at l D E z (t0 + 2) 31 (lyf_2_places h0) (if (0 : Int32) < (if (am_g M t0 3) < (a1 - (am_g M t0 2)) then (am_g M t0 3) else (a1 - (am_g M t0 2))) then (if (am_g M t0 3) < (a1 - (am_g M t0 2)) then (am_g M t0 3) else (a1 - (am_g M t0 2))) else (0 : Int32)) M v3 M2 h1) yn_X9_at rfl ⟨Nat.le_of_ble_eq_true rfl, Nat.le_of_ble_eq_true rfl⟩ rfl rfl (Nat.le_of_ble_eq_true rfl) ⟨Nat.zero_le _, Nat.zero_le _⟩ dX2_placeAt_21 rfl ?_
  exact am_iret F hr h dX2_placeAt_24
/-! AisleScheduler.put([III)V -/
abbrev rm_X9_put : Room := { frames := 1, cells := 0, slots := 0, locals := 24 }
theorem yn_X9_put : am_yn yX9_put 3 := ⟨⟨by decide +kernel, by decide +kernel⟩, by decide +kernel⟩
def g_X9_put (t0 n0 : Nat) (a1 : Int32) (a2 : Int32) (M : am_M) : Option (Unit × am_M) := (if a1 < (0 : Int32) then (some ((), M)) else (if (Int32.ofNat n0) ≤ a1 then (some ((), M)) else (am_ci a1 n0 (some ((), (am_s M t0 a1.toNatClampNeg a2))))))
set_option maxHeartbeats 4000000 in
set_option maxRecDepth 100000 in
theorem c_X9_put (l : Launch) (D : va_G) (E : Nat → ClassId) (z : Nat) (t0 n0 : Nat) (h0 : am_ly t0 = (20, n0)) (a1 : Int32) (a2 : Int32) (M : am_M)  (M1 : am_M) (h : g_X9_put t0 n0 a1 a2 M = some ((), M1)) : am_Mv l yX9_put cX9_put 3 none rm_X9_put D E z [.ref (z + t0), .int a1, .int a2] M M1 := by
  unfold g_X9_put at h
  refine am_of (own := RX9) (by decide +kernel) rfl (by exact Nat.le_of_ble_eq_true rfl) ?_
  intro p e s m args below meth c F hr
  show am_W p l e rm_X9_put s m args below meth c _ 3 D E z 0 0 M 0 [(0, .ref (z + t0)), (1, .int a1), (2, .int a2)] []
  refine am_iload_n F 1 dX9_put_0 rfl rfl ?_
  refine am_if_lt F (tgt := 14) dX9_put_1 (by decide) (fun c3 => ?_) (fun c3 => ?_)
  · have h := (if_pos c3).symm.trans h
    exact am_vret F hr h dX9_put_14
  · have h := (if_neg c3).symm.trans h
    refine am_iload_n F 1 dX9_put_4 rfl rfl ?_
    refine am_aload_n F 0 dX9_put_5 rfl rfl ?_
    refine am_alen F h0 (by decide) (by decide) (t0 := 0) rfl (v := (Int32.ofNat n0)) rfl dX9_put_6 ?_
    refine am_icmp_ge F (tgt := 14) dX9_put_7 (by decide) (fun c2 => ?_) (fun c2 => ?_)
    · have h := (if_pos c2).symm.trans h
      exact am_vret F hr h dX9_put_14
    · have h := (if_neg c2).symm.trans h
      refine am_aload_n F 0 dX9_put_10 rfl rfl ?_
      refine am_iload_n F 1 dX9_put_11 rfl rfl ?_
      refine am_iload_n F 2 dX9_put_12 rfl rfl ?_
      obtain ⟨q1, h⟩ := am_ciE h
      refine am_iast F h0 q1 dX9_put_13 ?_
      exact am_vret F hr h dX9_put_14
/-! AisleScheduler$Plan.restAt(II)V -/
abbrev rm_X2_restAt : Room := { frames := 2, cells := 0, slots := 0, locals := 46 }
theorem yn_X2_restAt : am_yn yX2_restAt 2 := ⟨⟨by decide +kernel, by decide +kernel⟩, by decide +kernel⟩
def g_X2_restAt (t0 : Nat) (a1 : Int32) (a2 : Int32) (M : am_M) : Option (Unit × am_M) := (am_b (g_X9_put (t0 + 2) 31 (0 : Int32) a1 M) (fun _ M2 => (some ((), (am_s (am_s (am_s M2 t0 2 a2) t0 3 (0 : Int32)) t0 4 (0 : Int32))))))
set_option maxHeartbeats 4000000 in
set_option maxRecDepth 100000 in
theorem c_X2_restAt (l : Launch) (D : va_G) (E : Nat → ClassId) (z : Nat) (t0 : Nat) (h0 : am_ly t0 = (2, 0)) (a1 : Int32) (a2 : Int32) (M : am_M)  (M1 : am_M) (h : g_X2_restAt t0 a1 a2 M = some ((), M1)) : am_Mv l yX2_restAt cX2_restAt 3 none rm_X2_restAt D E z [.ref (z + t0), .int a1, .int a2] M M1 := by
  unfold g_X2_restAt at h
  refine am_of (own := RX2) (by decide +kernel) rfl (by exact Nat.le_of_ble_eq_true rfl) ?_
  intro p e s m args below meth c F hr
  show am_W p l e rm_X2_restAt s m args below meth c _ 3 D E z 0 0 M 0 [(0, .ref (z + t0)), (1, .int a1), (2, .int a2)] []
  refine am_aload_n F 0 dX2_restAt_0 rfl rfl ?_
  refine gf_X2_15 F h0 dX2_restAt_1 ?_
  refine am_iconst F (v := (0 : Int32)) dX2_restAt_4 (by decide) ?_
  refine am_iload_n F 1 dX2_restAt_5 rfl rfl ?_
  obtain ⟨_, M2, h1, h⟩ := am_bE h
  refine am_callSNv F [.ref (z + (t0 + 2)), .int (0 : Int32), .int a1] cw_X2_18  (c_X9_put l D E z (t0 + 2) 31 (lyf_2_places h0) (0 : Int32) a1 M M2 h1) yn_X9_put rfl ⟨Nat.le_of_ble_eq_true rfl, Nat.le_of_ble_eq_true rfl⟩ rfl rfl (Nat.le_of_ble_eq_true rfl) ⟨Nat.zero_le _, Nat.zero_le _⟩ dX2_restAt_6 rfl ?_
  refine am_aload_n F 0 dX2_restAt_9 rfl rfl ?_
  refine am_iload_n F 2 dX2_restAt_10 rfl rfl ?_
  refine pf_X2_22 F h0 dX2_restAt_11 ?_
  refine am_aload_n F 0 dX2_restAt_14 rfl rfl ?_
  refine am_iconst F (v := (0 : Int32)) dX2_restAt_15 (by decide) ?_
  refine pf_X2_26 F h0 dX2_restAt_16 ?_
  refine am_aload_n F 0 dX2_restAt_19 rfl rfl ?_
  refine am_iconst F (v := (0 : Int32)) dX2_restAt_20 (by decide) ?_
  refine pf_X2_29 F h0 dX2_restAt_21 ?_
  exact am_vret F hr h dX2_restAt_24
/-! AisleScheduler$Floor.isWall(I)Z -/
abbrev rm_X1_isWall : Room := { frames := 2, cells := 0, slots := 0, locals := 45 }
theorem yn_X1_isWall : am_yn yX1_isWall 1 := ⟨⟨by decide +kernel, by decide +kernel⟩, by decide +kernel⟩
def g_X1_isWall (t0 : Nat) (a1 : Int32) (M : am_M) : Option (Int32 × am_M) := (am_b (g_X9_at (t0 + 1) 40 a1 M) (fun v3 M2 => (if v3 = (1 : Int32) then (some ((1 : Int32), M2)) else (some ((0 : Int32), M2)))))
set_option maxHeartbeats 4000000 in
set_option maxRecDepth 100000 in
theorem c_X1_isWall (l : Launch) (D : va_G) (E : Nat → ClassId) (z : Nat) (t0 : Nat) (h0 : am_ly t0 = (1, 0)) (a1 : Int32) (M : am_M) (r0 : Int32) (M1 : am_M) (h : g_X1_isWall t0 a1 M = some (r0, M1)) : am_Mi l yX1_isWall cX1_isWall 2 (some .boolean) rm_X1_isWall D E z [.ref (z + t0), .int a1] M r0 M1 := by
  unfold g_X1_isWall at h
  refine am_of (own := RX1) (by decide +kernel) rfl (by exact Nat.le_of_ble_eq_true rfl) ?_
  intro p e s m args below meth c F hr
  show am_W p l e rm_X1_isWall s m args below meth c _ 2 D E z 0 0 M 0 [(0, .ref (z + t0)), (1, .int a1)] []
  refine am_aload_n F 0 dX1_isWall_0 rfl rfl ?_
  refine gf_X1_9 F h0 dX1_isWall_1 ?_
  refine am_iload_n F 1 dX1_isWall_4 rfl rfl ?_
  obtain ⟨v3, M2, h1, h⟩ := am_bE h
  refine am_callSNi F [.ref (z + (t0 + 1)), .int a1] cw_X1_47  (c_X9_at l D E z (t0 + 1) 40 (lyf_1_kinds h0) a1 M v3 M2 h1) yn_X9_at rfl ⟨Nat.le_of_ble_eq_true rfl, Nat.le_of_ble_eq_true rfl⟩ rfl rfl (Nat.le_of_ble_eq_true rfl) ⟨Nat.zero_le _, Nat.zero_le _⟩ dX1_isWall_5 rfl ?_
  refine am_iconst F (v := (1 : Int32)) dX1_isWall_8 (by decide) ?_
  refine am_icmp_ne F (tgt := 16) dX1_isWall_9 (by decide) (fun c4 => ?_) (fun c4 => ?_)
  · have h := (if_neg c4).symm.trans h
    refine am_iconst F (v := (0 : Int32)) dX1_isWall_16 (by decide) ?_
    exact am_zret F hr (by decide) h dX1_isWall_17
  · have h := (if_pos c4).symm.trans h
    refine am_iconst F (v := (1 : Int32)) dX1_isWall_12 (by decide) ?_
    refine am_goto F (tgt := 17) dX1_isWall_13 (by decide) ?_
    exact am_zret F hr (by decide) h dX1_isWall_17
/-! AisleScheduler.bit(I)J -/
abbrev rm_X9_bit : Room := { frames := 1, cells := 0, slots := 0, locals := 24 }
theorem yn_X9_bit : am_yn yX9_bit 1 := ⟨⟨by decide +kernel, by decide +kernel⟩, by decide +kernel⟩
def g_X9_bit (a0 : Int32) (M : am_M) : Option (Int64 × am_M) := (if a0 < (0 : Int32) then (some ((0 : Int64), M)) else (if (40 : Int32) ≤ a0 then (some ((0 : Int64), M)) else (some (((1 : Int64) <<< (a0.toInt64 &&& 63)), M))))
set_option maxHeartbeats 4000000 in
set_option maxRecDepth 100000 in
theorem c_X9_bit (l : Launch) (D : va_G) (E : Nat → ClassId) (z : Nat) (a0 : Int32) (M : am_M) (r0 : Int64) (M1 : am_M) (h : g_X9_bit a0 M = some (r0, M1)) : am_Ml l yX9_bit cX9_bit 1 (some .long) rm_X9_bit D E z [.int a0] M r0 M1 := by
  unfold g_X9_bit at h
  refine am_of (own := RX9) (by decide +kernel) rfl (by exact Nat.le_of_ble_eq_true rfl) ?_
  intro p e s m args below meth c F hr
  show am_W p l e rm_X9_bit s m args below meth c _ 1 D E z 0 0 M 0 [(0, .int a0)] []
  refine am_iload_n F 0 dX9_bit_0 rfl rfl ?_
  refine am_if_lt F (tgt := 16) dX9_bit_1 (by decide) (fun c2 => ?_) (fun c2 => ?_)
  · have h := (if_pos c2).symm.trans h
    refine am_lconst F (v := (0 : Int64)) dX9_bit_16 (by decide) ?_
    exact am_lret F hr h dX9_bit_17
  · have h := (if_neg c2).symm.trans h
    refine am_iload_n F 0 dX9_bit_4 rfl rfl ?_
    refine am_bipush F (v := (40 : Int32)) dX9_bit_5 (by decide) ?_
    refine am_icmp_ge F (tgt := 16) dX9_bit_7 (by decide) (fun c1 => ?_) (fun c1 => ?_)
    · have h := (if_pos c1).symm.trans h
      refine am_lconst F (v := (0 : Int64)) dX9_bit_16 (by decide) ?_
      exact am_lret F hr h dX9_bit_17
    · have h := (if_neg c1).symm.trans h
      refine am_lconst F (v := (1 : Int64)) dX9_bit_10 (by decide) ?_
      refine am_iload_n F 0 dX9_bit_11 rfl rfl ?_
      refine am_lshl F dX9_bit_12 ?_
      refine am_goto F (tgt := 17) dX9_bit_13 (by decide) ?_
      exact am_lret F hr h dX9_bit_17
/-! AisleScheduler$Floor.walls()J -/
abbrev rm_X1_walls : Room := { frames := 3, cells := 0, slots := 0, locals := 66 }
theorem yn_X1_walls : am_yn yX1_walls 0 := ⟨⟨by decide +kernel, by decide +kernel⟩, by decide +kernel⟩
def g_X1_walls_L4 (t0 : Nat) : Nat → Int64 → Int32 → am_M → Option ((Int64) × am_M)
  | 0, _, _, _ => none
  | n + 1, a1, a3, M => (if (40 : Int32) ≤ a3 then (some (a1, M)) else (am_b (g_X1_isWall t0 a3 M) (fun v3 M2 => (if v3 = (0 : Int32) then (g_X1_walls_L4 t0 n a1 (a3 + (1 : Int32)) M2) else (am_b (g_X9_bit a3 M2) (fun v6 M5 => (g_X1_walls_L4 t0 n (a1 ||| v6) (a3 + (1 : Int32)) M5)))))))
set_option maxHeartbeats 4000000 in
set_option maxRecDepth 100000 in
theorem cl_X1_walls_L4 {l : Launch} {p : Program} {e : Env} {s : State} {m : MethodId} {args : Array Value} {below : List Frame} {meth : Method} {c : Code} {Q : State → Prop} {D : va_G} {E : Nat → ClassId} {z : Nat} (F : am_F p s m args meth c cX1_walls 4 RX1 D E z) (t0 : Nat) (h0 : am_ly t0 = (1, 0)) : ∀ (n : Nat) (a1 : Int64) (a3 : Int32) (M : am_M) (x : Int64) (M1 : am_M), g_X1_walls_L4 t0 n a1 a3 M = some (x, M1) → (am_W p l e rm_X1_walls s m args below meth c Q 4 D E z 0 0 M1 31 [(1, .long x)] []) → am_W p l e rm_X1_walls s m args below meth c Q 4 D E z 0 0 M 4 [(0, .ref (z + t0)), (1, .long a1), (3, .int a3)] [] := by
  intro n
  induction n with
  | zero => intro a1 a3 M x M1 h K; cases h
  | succ n ih =>
    intro a1 a3 M x M1 h K
    rw [g_X1_walls_L4] at h
    refine am_iload_n F 2 dX1_walls_4 rfl rfl ?_
    refine am_bipush F (v := (40 : Int32)) dX1_walls_5 (by decide) ?_
    refine am_icmp_ge F (tgt := 31) dX1_walls_7 (by decide) (fun c8 => ?_) (fun c8 => ?_)
    · have h := (if_pos c8).symm.trans h
      cases h
      exact am_sub (lv' := [(1, .long a1)]) [1] rfl (K)
    · have h := (if_neg c8).symm.trans h
      refine am_aload_n F 0 dX1_walls_10 rfl rfl ?_
      refine am_iload_n F 2 dX1_walls_11 rfl rfl ?_
      obtain ⟨v3, M2, h1, h⟩ := am_bE h
      refine am_callVi F [.int a3] h0 (by decide) rfl cw_X1_51 (c_X1_isWall l D E z t0 h0 a3 M v3 M2 h1) yn_X1_isWall rfl ⟨Nat.le_of_ble_eq_true rfl, Nat.le_of_ble_eq_true rfl⟩ rfl rfl (Nat.le_of_ble_eq_true rfl) ⟨Nat.zero_le _, Nat.zero_le _⟩ dX1_walls_12 rfl ?_
      refine am_if_eq F (tgt := 25) dX1_walls_15 (by decide) (fun c7 => ?_) (fun c7 => ?_)
      · have h := (if_pos c7).symm.trans h
        refine am_iinc F [(3, .int (a3 + (1 : Int32))), (0, .ref (z + t0)), (1, .long a1)] 2 dX1_walls_25 (by decide) rfl rfl rfl ?_
        refine am_goto F (tgt := 4) dX1_walls_28 (by decide) ?_
        exact am_sub (lv' := [(0, .ref (z + t0)), (1, .long a1), (3, .int (a3 + (1 : Int32)))]) [1, 2, 0] rfl (ih a1 (a3 + (1 : Int32)) M2 _ _ h K)
      · have h := (if_neg c7).symm.trans h
        refine am_lload_n F 1 dX1_walls_18 rfl rfl ?_
        refine am_iload_n F 2 dX1_walls_19 rfl rfl ?_
        obtain ⟨v6, M5, h4, h⟩ := am_bE h
        refine am_callSNl F [.int a3] cw_X1_55  (c_X9_bit l D E z a3 M2 v6 M5 h4) yn_X9_bit rfl ⟨Nat.le_of_ble_eq_true rfl, Nat.le_of_ble_eq_true rfl⟩ rfl rfl (Nat.le_of_ble_eq_true rfl) ⟨Nat.zero_le _, Nat.zero_le _⟩ dX1_walls_20 rfl ?_
        refine am_lor F dX1_walls_23 ?_
        refine am_lstore_n F [(1, .long (a1 ||| v6)), (0, .ref (z + t0)), (3, .int a3)] dX1_walls_24 rfl (by decide) rfl ?_
        refine am_iinc F [(3, .int (a3 + (1 : Int32))), (1, .long (a1 ||| v6)), (0, .ref (z + t0))] 2 dX1_walls_25 (by decide) rfl rfl rfl ?_
        refine am_goto F (tgt := 4) dX1_walls_28 (by decide) ?_
        exact am_sub (lv' := [(0, .ref (z + t0)), (1, .long (a1 ||| v6)), (3, .int (a3 + (1 : Int32)))]) [2, 1, 0] rfl (ih (a1 ||| v6) (a3 + (1 : Int32)) M5 _ _ h K)
def g_X1_walls (t0 : Nat) (M : am_M) : Option (Int64 × am_M) := (am_b (g_X1_walls_L4 t0 am_fu (0 : Int64) (0 : Int32) M) (fun x9 M10 => (some (x9, M10))))
set_option maxHeartbeats 4000000 in
set_option maxRecDepth 100000 in
theorem c_X1_walls (l : Launch) (D : va_G) (E : Nat → ClassId) (z : Nat) (t0 : Nat) (h0 : am_ly t0 = (1, 0)) (M : am_M) (r0 : Int64) (M1 : am_M) (h : g_X1_walls t0 M = some (r0, M1)) : am_Ml l yX1_walls cX1_walls 4 (some .long) rm_X1_walls D E z [.ref (z + t0)] M r0 M1 := by
  unfold g_X1_walls at h
  refine am_of (own := RX1) (by decide +kernel) rfl (by exact Nat.le_of_ble_eq_true rfl) ?_
  intro p e s m args below meth c F hr
  show am_W p l e rm_X1_walls s m args below meth c _ 4 D E z 0 0 M 0 [(0, .ref (z + t0))] []
  refine am_lconst F (v := (0 : Int64)) dX1_walls_0 (by decide) ?_
  refine am_lstore_n F [(1, .long (0 : Int64)), (0, .ref (z + t0))] dX1_walls_1 rfl (by decide) rfl ?_
  refine am_iconst F (v := (0 : Int32)) dX1_walls_2 (by decide) ?_
  refine am_istore_n F [(3, .int (0 : Int32)), (1, .long (0 : Int64)), (0, .ref (z + t0))] dX1_walls_3 rfl (by decide) rfl ?_
  obtain ⟨x9, M10, h11, h⟩ := am_bE h
  refine am_sub (lv' := [(0, .ref (z + t0)), (1, .long (0 : Int64)), (3, .int (0 : Int32))]) [2, 1, 0] rfl (cl_X1_walls_L4 F t0 h0 am_fu (0 : Int64) (0 : Int32) M x9 M10 h11 ?_)
  refine am_lload_n F 0 dX1_walls_31 rfl rfl ?_
  exact am_lret F hr h dX1_walls_32
/-! AisleScheduler.fillMasks([JJ)V -/
abbrev rm_X9_fillMasks : Room := { frames := 1, cells := 0, slots := 0, locals := 24 }
theorem yn_X9_fillMasks : am_yn yX9_fillMasks 2 := ⟨⟨by decide +kernel, by decide +kernel⟩, by decide +kernel⟩
def g_X9_fillMasks_L2 (t0 n0 : Nat) (a1 : Int64) : Nat → Int32 → am_M → Option ((Unit) × am_M)
  | 0, _, _ => none
  | n + 1, a3, M => (if (Int32.ofNat n0) ≤ a3 then (some ((), M)) else (am_ci a3 n0 (g_X9_fillMasks_L2 t0 n0 a1 n (a3 + (1 : Int32)) (am_ls M t0 a3.toNatClampNeg a1))))
set_option maxHeartbeats 4000000 in
set_option maxRecDepth 100000 in
theorem cl_X9_fillMasks_L2 {l : Launch} {p : Program} {e : Env} {s : State} {m : MethodId} {args : Array Value} {below : List Frame} {meth : Method} {c : Code} {Q : State → Prop} {D : va_G} {E : Nat → ClassId} {z : Nat} (F : am_F p s m args meth c cX9_fillMasks 4 RX9 D E z) (t0 n0 : Nat) (h0 : am_ly t0 = (21, n0)) (a1 : Int64) : ∀ (n : Nat) (a3 : Int32) (M : am_M) (x : Unit) (M1 : am_M), g_X9_fillMasks_L2 t0 n0 a1 n a3 M = some (x, M1) → (am_W p l e rm_X9_fillMasks s m args below meth c Q 4 D E z 0 0 M1 18 [] []) → am_W p l e rm_X9_fillMasks s m args below meth c Q 4 D E z 0 0 M 2 [(0, .ref (z + t0)), (1, .long a1), (3, .int a3)] [] := by
  intro n
  induction n with
  | zero => intro a3 M x M1 h K; cases h
  | succ n ih =>
    intro a3 M x M1 h K
    rw [g_X9_fillMasks_L2] at h
    refine am_iload_n F 2 dX9_fillMasks_2 rfl rfl ?_
    refine am_aload_n F 0 dX9_fillMasks_3 rfl rfl ?_
    refine am_alen F h0 (by decide) (by decide) (t0 := 1) rfl (v := (Int32.ofNat n0)) rfl dX9_fillMasks_4 ?_
    refine am_icmp_ge F (tgt := 18) dX9_fillMasks_5 (by decide) (fun c2 => ?_) (fun c2 => ?_)
    · have h := (if_pos c2).symm.trans h
      cases h
      exact am_sub (lv' := []) [] rfl (K)
    · have h := (if_neg c2).symm.trans h
      refine am_aload_n F 0 dX9_fillMasks_8 rfl rfl ?_
      refine am_iload_n F 2 dX9_fillMasks_9 rfl rfl ?_
      refine am_lload_n F 1 dX9_fillMasks_10 rfl rfl ?_
      obtain ⟨q1, h⟩ := am_ciE h
      refine am_last F h0 q1 dX9_fillMasks_11 ?_
      refine am_iinc F [(3, .int (a3 + (1 : Int32))), (0, .ref (z + t0)), (1, .long a1)] 2 dX9_fillMasks_12 (by decide) rfl rfl rfl ?_
      refine am_goto F (tgt := 2) dX9_fillMasks_15 (by decide) ?_
      exact am_sub (lv' := [(0, .ref (z + t0)), (1, .long a1), (3, .int (a3 + (1 : Int32)))]) [1, 2, 0] rfl (ih (a3 + (1 : Int32)) (am_ls M t0 a3.toNatClampNeg a1) _ _ h K)
def g_X9_fillMasks (t0 n0 : Nat) (a1 : Int64) (M : am_M) : Option (Unit × am_M) := (am_b (g_X9_fillMasks_L2 t0 n0 a1 am_fu (0 : Int32) M) (fun x3 M4 => (some ((), M4))))
set_option maxHeartbeats 4000000 in
set_option maxRecDepth 100000 in
theorem c_X9_fillMasks (l : Launch) (D : va_G) (E : Nat → ClassId) (z : Nat) (t0 n0 : Nat) (h0 : am_ly t0 = (21, n0)) (a1 : Int64) (M : am_M)  (M1 : am_M) (h : g_X9_fillMasks t0 n0 a1 M = some ((), M1)) : am_Mv l yX9_fillMasks cX9_fillMasks 4 none rm_X9_fillMasks D E z [.ref (z + t0), .long a1] M M1 := by
  unfold g_X9_fillMasks at h
  refine am_of (own := RX9) (by decide +kernel) rfl (by exact Nat.le_of_ble_eq_true rfl) ?_
  intro p e s m args below meth c F hr
  show am_W p l e rm_X9_fillMasks s m args below meth c _ 4 D E z 0 0 M 0 [(0, .ref (z + t0)), (1, .long a1)] []
  refine am_iconst F (v := (0 : Int32)) dX9_fillMasks_0 (by decide) ?_
  refine am_istore_n F [(3, .int (0 : Int32)), (0, .ref (z + t0)), (1, .long a1)] dX9_fillMasks_1 rfl (by decide) rfl ?_
  obtain ⟨x3, M4, h5, h⟩ := am_bE h
  refine am_sub (lv' := [(0, .ref (z + t0)), (1, .long a1), (3, .int (0 : Int32))]) [1, 2, 0] rfl (cl_X9_fillMasks_L2 F t0 n0 h0 a1 am_fu (0 : Int32) M x3 M4 h5 ?_)
  exact am_vret F hr h dX9_fillMasks_18
/-! AisleScheduler.join([JIJ)V -/
abbrev rm_X9_join : Room := { frames := 1, cells := 0, slots := 0, locals := 24 }
theorem yn_X9_join : am_yn yX9_join 3 := ⟨⟨by decide +kernel, by decide +kernel⟩, by decide +kernel⟩
def g_X9_join (t0 n0 : Nat) (a1 : Int32) (a2 : Int64) (M : am_M) : Option (Unit × am_M) := (if a1 < (0 : Int32) then (some ((), M)) else (if (Int32.ofNat n0) ≤ a1 then (some ((), M)) else (am_ci a1 n0 (am_ci a1 n0 (some ((), (am_ls M t0 a1.toNatClampNeg ((am_lg M t0 a1.toNatClampNeg) ||| a2))))))))
set_option maxHeartbeats 4000000 in
set_option maxRecDepth 100000 in
theorem c_X9_join (l : Launch) (D : va_G) (E : Nat → ClassId) (z : Nat) (t0 n0 : Nat) (h0 : am_ly t0 = (21, n0)) (a1 : Int32) (a2 : Int64) (M : am_M)  (M1 : am_M) (h : g_X9_join t0 n0 a1 a2 M = some ((), M1)) : am_Mv l yX9_join cX9_join 4 none rm_X9_join D E z [.ref (z + t0), .int a1, .long a2] M M1 := by
  unfold g_X9_join at h
  refine am_of (own := RX9) (by decide +kernel) rfl (by exact Nat.le_of_ble_eq_true rfl) ?_
  intro p e s m args below meth c F hr
  show am_W p l e rm_X9_join s m args below meth c _ 4 D E z 0 0 M 0 [(0, .ref (z + t0)), (1, .int a1), (2, .long a2)] []
  refine am_iload_n F 1 dX9_join_0 rfl rfl ?_
  refine am_if_lt F (tgt := 17) dX9_join_1 (by decide) (fun c4 => ?_) (fun c4 => ?_)
  · have h := (if_pos c4).symm.trans h
    exact am_vret F hr h dX9_join_17
  · have h := (if_neg c4).symm.trans h
    refine am_iload_n F 1 dX9_join_4 rfl rfl ?_
    refine am_aload_n F 0 dX9_join_5 rfl rfl ?_
    refine am_alen F h0 (by decide) (by decide) (t0 := 1) rfl (v := (Int32.ofNat n0)) rfl dX9_join_6 ?_
    refine am_icmp_ge F (tgt := 17) dX9_join_7 (by decide) (fun c3 => ?_) (fun c3 => ?_)
    · have h := (if_pos c3).symm.trans h
      exact am_vret F hr h dX9_join_17
    · have h := (if_neg c3).symm.trans h
      refine am_aload_n F 0 dX9_join_10 rfl rfl ?_
      refine am_iload_n F 1 dX9_join_11 rfl rfl ?_
      refine am_dup2 F dX9_join_12 rfl rfl ?_
      obtain ⟨q1, h⟩ := am_ciE h
      refine am_lald F h0 q1 dX9_join_13 ?_
      refine am_lload_n F 2 dX9_join_14 rfl rfl ?_
      refine am_lor F dX9_join_15 ?_
      obtain ⟨q2, h⟩ := am_ciE h
      refine am_last F h0 q2 dX9_join_16 ?_
      exact am_vret F hr h dX9_join_17
/-! AisleScheduler$Plan.actionAt(I)I -/
abbrev rm_X2_actionAt : Room := { frames := 2, cells := 0, slots := 0, locals := 45 }
theorem yn_X2_actionAt : am_yn yX2_actionAt 1 := ⟨⟨by decide +kernel, by decide +kernel⟩, by decide +kernel⟩
def g_X2_actionAt (t0 : Nat) (a1 : Int32) (M : am_M) : Option (Int32 × am_M) := (if (am_g M t0 3) ≤ (a1 - (am_g M t0 2)) then (some ((0 : Int32), M)) else (am_b (g_X9_at (t0 + 1) 30 (a1 - (am_g M t0 2)) M) (fun v3 M2 => (some (v3, M2)))))
set_option maxHeartbeats 4000000 in
set_option maxRecDepth 100000 in
theorem c_X2_actionAt (l : Launch) (D : va_G) (E : Nat → ClassId) (z : Nat) (t0 : Nat) (h0 : am_ly t0 = (2, 0)) (a1 : Int32) (M : am_M) (r0 : Int32) (M1 : am_M) (h : g_X2_actionAt t0 a1 M = some (r0, M1)) : am_Mi l yX2_actionAt cX2_actionAt 3 (some .int) rm_X2_actionAt D E z [.ref (z + t0), .int a1] M r0 M1 := by
  unfold g_X2_actionAt at h
  refine am_of (own := RX2) (by decide +kernel) rfl (by exact Nat.le_of_ble_eq_true rfl) ?_
  intro p e s m args below meth c F hr
  show am_W p l e rm_X2_actionAt s m args below meth c _ 3 D E z 0 0 M 0 [(0, .ref (z + t0)), (1, .int a1)] []
  refine am_iload_n F 1 dX2_actionAt_0 rfl rfl ?_
  refine am_aload_n F 0 dX2_actionAt_1 rfl rfl ?_
  refine gf_X2_22 F h0 dX2_actionAt_2 ?_
  refine am_isub F dX2_actionAt_5 ?_
  refine am_istore_n F [(2, .int (a1 - (am_g M t0 2))), (0, .ref (z + t0)), (1, .int a1)] dX2_actionAt_6 rfl (by decide) rfl ?_
  refine am_iload_n F 0 dX2_actionAt_7 rfl rfl ?_
  refine am_aload_n F 1 dX2_actionAt_8 rfl rfl ?_
  refine gf_X2_26 F h0 dX2_actionAt_9 ?_
  refine am_icmp_ge F (tgt := 26) dX2_actionAt_12 (by decide) (fun c4 => ?_) (fun c4 => ?_)
  · have h := (if_pos c4).symm.trans h
    refine am_iconst F (v := (0 : Int32)) dX2_actionAt_26 (by decide) ?_
    exact am_iret F hr h dX2_actionAt_27
  · have h := (if_neg c4).symm.trans h
    refine am_aload_n F 1 dX2_actionAt_15 rfl rfl ?_
    refine gf_X2_9 F h0 dX2_actionAt_16 ?_
    refine am_iload_n F 0 dX2_actionAt_19 rfl rfl ?_
    obtain ⟨v3, M2, h1, h⟩ := am_bE h
    refine am_callSNi F [.ref (z + (t0 + 1)), .int (a1 - (am_g M t0 2))] cw_X2_43  (c_X9_at l D E z (t0 + 1) 30 (lyf_2_actions h0) (a1 - (am_g M t0 2)) M v3 M2 h1) yn_X9_at rfl ⟨Nat.le_of_ble_eq_true rfl, Nat.le_of_ble_eq_true rfl⟩ rfl rfl (Nat.le_of_ble_eq_true rfl) ⟨Nat.zero_le _, Nat.zero_le _⟩ dX2_actionAt_20 rfl ?_
    refine am_goto F (tgt := 27) dX2_actionAt_23 (by decide) ?_
    exact am_iret F hr h dX2_actionAt_27
/-! AisleScheduler$Finder.barRides(II)V -/
abbrev rm_X0_barRides : Room := { frames := 2, cells := 0, slots := 0, locals := 47 }
theorem yn_X0_barRides : am_yn yX0_barRides 2 := ⟨⟨by decide +kernel, by decide +kernel⟩, by decide +kernel⟩
def g_X0_barRides_L10 (a1 : Int32) (a2 : Int32) : Nat → Int32 → am_M → Option ((Unit) × am_M)
  | 0, _, _ => none
  | n + 1, a3, M => (if a1 < a3 then (some ((), M)) else (am_b (g_X9_join 163 210 ((a3 * (7 : Int32)) + a2) (1099511627775 : Int64) M) (fun _ M2 => (g_X0_barRides_L10 a1 a2 n (a3 + (1 : Int32)) M2))))
set_option maxHeartbeats 4000000 in
set_option maxRecDepth 100000 in
theorem cl_X0_barRides_L10 {l : Launch} {p : Program} {e : Env} {s : State} {m : MethodId} {args : Array Value} {below : List Frame} {meth : Method} {c : Code} {Q : State → Prop} {D : va_G} {E : Nat → ClassId} {z : Nat} (F : am_F p s m args meth c cX0_barRides 4 RX0 D E z) (a1 : Int32) (a2 : Int32) : ∀ (n : Nat) (a3 : Int32) (M : am_M) (x : Unit) (M1 : am_M), g_X0_barRides_L10 a1 a2 n a3 M = some (x, M1) → (am_W p l e rm_X0_barRides s m args below meth c Q 4 D E z 0 0 M1 37 [] []) → am_W p l e rm_X0_barRides s m args below meth c Q 4 D E z 0 0 M 10 [(0, .ref (z + 161)), (1, .int a1), (2, .int a2), (3, .int a3)] [] := by
  intro n
  induction n with
  | zero => intro a3 M x M1 h K; cases h
  | succ n ih =>
    intro a3 M x M1 h K
    rw [g_X0_barRides_L10] at h
    refine am_iload_n F 3 dX0_barRides_10 rfl rfl ?_
    refine am_iload_n F 1 dX0_barRides_11 rfl rfl ?_
    refine am_icmp_gt F (tgt := 37) dX0_barRides_12 (by decide) (fun c3 => ?_) (fun c3 => ?_)
    · have h := (if_pos c3).symm.trans h
      cases h
      exact am_sub (lv' := []) [] rfl (K)
    · have h := (if_neg c3).symm.trans h
      refine am_aload_n F 0 dX0_barRides_15 rfl rfl ?_
      refine gf_X0_15 F lyk_161 dX0_barRides_16 ?_
      refine am_iload_n F 3 dX0_barRides_19 rfl rfl ?_
      refine am_bipush F (v := (7 : Int32)) dX0_barRides_20 (by decide) ?_
      refine am_imul F dX0_barRides_22 ?_
      refine am_iload_n F 2 dX0_barRides_23 rfl rfl ?_
      refine am_iadd F dX0_barRides_24 ?_
      refine am_ldc2 F (v := (1099511627775 : Int64)) dX0_barRides_25 wd_465 ?_
      obtain ⟨_, M2, h1, h⟩ := am_bE h
      refine am_callSNv F [.ref (z + 163), .int ((a3 * (7 : Int32)) + a2), .long (1099511627775 : Int64)] cw_X0_76  (c_X9_join l D E z 163 210 lyk_163 ((a3 * (7 : Int32)) + a2) (1099511627775 : Int64) M M2 h1) yn_X9_join rfl ⟨Nat.le_of_ble_eq_true rfl, Nat.le_of_ble_eq_true rfl⟩ rfl rfl (Nat.le_of_ble_eq_true rfl) ⟨Nat.zero_le _, Nat.zero_le _⟩ dX0_barRides_28 rfl ?_
      refine am_iinc F [(3, .int (a3 + (1 : Int32))), (0, .ref (z + 161)), (1, .int a1), (2, .int a2)] 3 dX0_barRides_31 (by decide) rfl rfl rfl ?_
      refine am_goto F (tgt := 10) dX0_barRides_34 (by decide) ?_
      exact am_sub (lv' := [(0, .ref (z + 161)), (1, .int a1), (2, .int a2), (3, .int (a3 + (1 : Int32)))]) [1, 2, 3, 0] rfl (ih (a3 + (1 : Int32)) M2 _ _ h K)
def g_X0_barRides (a1 : Int32) (a2 : Int32) (M : am_M) : Option (Unit × am_M) := (am_b (g_X0_barRides_L10 a1 a2 am_fu (if (0 : Int32) < ((a1 - (3 : Int32)) + (1 : Int32)) then ((a1 - (3 : Int32)) + (1 : Int32)) else (0 : Int32)) M) (fun x4 M5 => (some ((), M5))))
set_option maxHeartbeats 4000000 in
set_option maxRecDepth 100000 in
theorem c_X0_barRides (l : Launch) (D : va_G) (E : Nat → ClassId) (z : Nat) (a1 : Int32) (a2 : Int32) (M : am_M)  (M1 : am_M) (h : g_X0_barRides a1 a2 M = some ((), M1)) : am_Mv l yX0_barRides cX0_barRides 4 none rm_X0_barRides D E z [.ref (z + 161), .int a1, .int a2] M M1 := by
  unfold g_X0_barRides at h
  refine am_of (own := RX0) (by decide +kernel) rfl (by exact Nat.le_of_ble_eq_true rfl) ?_
  intro p e s m args below meth c F hr
  show am_W p l e rm_X0_barRides s m args below meth c _ 4 D E z 0 0 M 0 [(0, .ref (z + 161)), (1, .int a1), (2, .int a2)] []
  refine am_iconst F (v := (0 : Int32)) dX0_barRides_0 (by decide) ?_
  refine am_iload_n F 1 dX0_barRides_1 rfl rfl ?_
  refine am_iconst F (v := (3 : Int32)) dX0_barRides_2 (by decide) ?_
  refine am_isub F dX0_barRides_3 ?_
  refine am_iconst F (v := (1 : Int32)) dX0_barRides_4 (by decide) ?_
  refine am_iadd F dX0_barRides_5 ?_
  refine am_max F dX0_barRides_6 wd_464 (Nat.le_of_ble_eq_true rfl) (Nat.le_of_ble_eq_true rfl) (Nat.zero_le _) (Nat.zero_le _) ?_
  refine am_istore_n F [(3, .int (if (0 : Int32) < ((a1 - (3 : Int32)) + (1 : Int32)) then ((a1 - (3 : Int32)) + (1 : Int32)) else (0 : Int32))), (0, .ref (z + 161)), (1, .int a1), (2, .int a2)] dX0_barRides_9 rfl (by decide) rfl ?_
  obtain ⟨x4, M5, h6, h⟩ := am_bE h
  refine am_sub (lv' := [(0, .ref (z + 161)), (1, .int a1), (2, .int a2), (3, .int (if (0 : Int32) < ((a1 - (3 : Int32)) + (1 : Int32)) then ((a1 - (3 : Int32)) + (1 : Int32)) else (0 : Int32)))]) [1, 2, 3, 0] rfl (cl_X0_barRides_L10 F a1 a2 am_fu (if (0 : Int32) < ((a1 - (3 : Int32)) + (1 : Int32)) then ((a1 - (3 : Int32)) + (1 : Int32)) else (0 : Int32)) M x4 M5 h6 ?_)
  exact am_vret F hr h dX0_barRides_37
