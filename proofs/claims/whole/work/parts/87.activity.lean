/-! the cases activity, averageDelay -/
section ACT
theorem fr_ds {X : List Nat} {M : am_M} {a k : Nat} {v : UInt64} : fr X M (am_ds M a k v) := fun _ _ => ⟨fun _ => rfl, fun _ => rfl⟩
theorem dg_ds {M : am_M} {a k : Nat} {v : UInt64} : am_dg (am_ds M a k v) a k = v := by
  unfold am_dg am_ds
  dsimp only
  rw [if_pos ⟨rfl, rfl⟩]
theorem sg_ds {M : am_M} {a k : Nat} {v : UInt64} : sg (am_ds M a k v) = sg M := rfl
theorem INV_ds {M : am_M} (h : INV M) (k : Nat) (v : UInt64) : INV (am_ds M 187 k v) := INV_scr h (X := []) fr_ds (by simp) (fun _ _ => rfl)
/-- what the cases with a float and with a double have to give -/
def CSf (rc : Option (Int32 × am_M)) (rm : am_M → Option (UInt32 × am_M)) : Prop := ∃ (k : Int32) (v : UInt32) (P Q : am_M), rc = some (k, P) ∧ rm P = some (v, Q) ∧ am_g Q 174 0 = k ∧ (k = 0 → v &&& 0x7fffffff ≤ 0x7f800000 ∧ am_dg Q 187 0 = FP.f2d v) ∧ INV Q
def CSd (rc : Option (Int32 × am_M)) (rm : am_M → Option (UInt64 × am_M)) : Prop := ∃ (k : Int32) (v : UInt64) (P Q : am_M), rc = some (k, P) ∧ rm P = some (v, Q) ∧ am_g Q 174 0 = k ∧ (k = 0 → v &&& 0x7fffffffffffffff ≤ 0x7ff0000000000000 ∧ am_dg Q 187 0 = v) ∧ INV Q
theorem thr_g {M : am_M} {v : Int32} : am_g (am_s M 174 0 v) 174 0 = v := by
  unfold am_g am_s
  dsimp only
  rw [if_pos ⟨rfl, rfl⟩]
/-- the share of a robot's ticks that it did not wait -/
def acv (σ : Nat → Int) (r : Nat) : UInt32 := FP.fdiv (FP.i2f (pI (ro σ r 10 - ro σ r 7))) (FP.i2f (pI (ro σ r 10)))
theorem acv_nn {σ : Nat → Int} (hO : OK σ) {r : Nat} (hr : (r : Int) < σ 6) (h : ro σ r 10 ≠ 0) : acv σ r &&& 0x7fffffff ≤ 0x7f800000 := by
  have hR := (hO.2.2.2.2.2.1 r hr).2.2.1
  have h0 := hO.1
  obtain ⟨n, hn⟩ : ∃ n : Nat, ro σ r 10 = n := ⟨(ro σ r 10).toNat, by omega⟩
  unfold acv
  rw [hn]
  exact nn_fdiv _ (by omega) (by omega)
theorem s_activityOf {M : am_M} (hI : INV M) {r : Nat} (hr : (r : Int) < sg M 6) : g_X9_activityOf (16 + 5 * r) M = some (if ro (sg M) r 10 = 0 then .inr 6 else .inl (acv (sg M) r), M) := by
  have hO := hI.1
  have hR := (hO.2.2.2.2.2.1 r hr).2.2.1
  have h0 := hO.1
  have hB := hI.2.1.2.2.2.1 r hr
  have h6 := hO.2.2.1
  have e4 : iv M (16 + 5 * r) 4 = sg M 0 - ro (sg M) r 10 := by
    have := hB.2.2.2.1
    rw [show 1 + 15 + 5 * r = 16 + 5 * r by omega] at this
    exact this
  have e7 : iv M (16 + 5 * r + 4) 2 = ro (sg M) r 7 := by
    have := hB.2.2.2.2 2 (by omega)
    rw [show 1 + 19 + 5 * r = 16 + 5 * r + 4 by omega] at this
    exact this
  have e0 : iv M 1 4 = sg M 0 := hI.2.1.2.1.2.2
  have d : am_g M 1 4 - am_g M (16 + 5 * r) 4 = pI (ro (sg M) r 10) := by
    rw [pi_g, pi_g, e0, e4, pi_sub, show sg M 0 - (sg M 0 - ro (sg M) r 10) = ro (sg M) r 10 by omega]
  have a2 : g_X9_at (16 + 5 * r + 4) 5 (2 : Int32) M = some (pI (ro (sg M) r 7), M) := by
    rw [show (2 : Int32) = pI 2 from rfl, s_at1 _ _ _ (by omega) (by omega) (by omega)]
    rw [show (2 : Int).toNat = 2 from rfl, e7]
  unfold g_X9_activityOf
  rw [d, a2, am_b_some, pi_sub]
  by_cases c : ro (sg M) r 10 = 0
  · rw [if_neg (show ¬ ((0 : Int32) < pI (ro (sg M) r 10)) by
      show ¬ (pI 0 < _)
      rw [pi_lt (by omega) (by omega) (by omega) (by omega)]
      omega), if_pos c]
  · rw [if_pos (show (0 : Int32) < pI (ro (sg M) r 10) by
      show pI 0 < _
      rw [pi_lt (by omega) (by omega) (by omega) (by omega)]
      omega), if_neg c]
    have hv := acv_nn hO hr c
    unfold acv at hv ⊢
    rw [am_c_true hv]
theorem s_active {σ : Nat → Int} {P : am_M} (hs : sg P = σ) (hO : OK σ) {r : Nat} (hr : (r : Int) < σ 6) (h : ro σ r 10 ≠ 0) : g_X10_active (pI r) P = some (acv σ r, P) := by
  have h6 := hO.2.2.1
  have m10 : g_X10_of (pI r) (10 : Int32) P = some (pI (ro σ r 10), P) := mof hs (r := r) (w := 10) (by omega) (by omega)
  have m7 : g_X10_of (pI r) (7 : Int32) P = some (pI (ro σ r 7), P) := mof hs (r := r) (w := 7) (by omega) (by omega)
  have hv := acv_nn hO hr h
  unfold acv at hv ⊢
  unfold g_X10_active
  rw [m10, am_b_some, m7, am_b_some, m10, am_b_some, pi_sub, am_c_true hv]
theorem s_acRef {σ : Nat → Int} {P : am_M} (hs : sg P = σ) (hO : OK σ) {x : Int} (hx1 : -2147483648 ≤ x) (hx2 : x < 2147483648) : g_X10_activeRefusal (pI x) P = some (pI (if 0 ≤ x ∧ x < σ 6 then (if ro σ x.toNat 10 = 0 then 2 else 0) else 1), am_s P 174 0 (pI (if 0 ≤ x ∧ x < σ 6 then (if ro σ x.toNat 10 = 0 then 2 else 0) else 1))) := by
  have h6 := hO.2.2.1
  unfold g_X10_activeRefusal
  by_cases c : 0 ≤ x ∧ x < σ 6
  · obtain ⟨r, rfl⟩ : ∃ r : Nat, x = r := ⟨x.toNat, by omega⟩
    have hR := (hO.2.2.2.2.2.1 r c.2).2.2.1
    have h0 := hO.1
    have m10 : g_X10_of (pI r) (10 : Int32) P = some (pI (ro σ r 10), P) := mof hs (r := r) (w := 10) (by omega) (by omega)
    rw [if_pos c, mrob_t hs hO c, am_b_some, if_neg ci1, m10, am_b_some, Int.toNat_natCast]
    by_cases d : ro σ r 10 = 0
    · rw [if_pos d, if_pos (show pI (ro σ r 10) = (0 : Int32) by rw [d]; rfl)]
      show some (am_g (am_s P 174 0 (pI 2)) 174 0, _) = _
      rw [thr_g]
      rfl
    · rw [if_neg d, if_neg (show ¬ (pI (ro σ r 10) = (0 : Int32)) from fun q => d ((pi_eq (b := 0) (by omega) (by omega) (by omega) (by omega)).mp q))]
      show some (am_g (am_s P 174 0 (pI 0)) 174 0, _) = _
      rw [thr_g]
      rfl
  · rw [if_neg c, mrob_f hs hO hx1 hx2 c, am_b_some, if_pos ci0]
    show some (am_g (am_s P 174 0 (pI 1)) 174 0, _) = _
    rw [thr_g]
    rfl
theorem cs_activity {M : am_M} (hI : INV M) (a : Int32) : CSf (g_L_activity a M) (g_X10_activity a) := by
  obtain ⟨x, rfl, hx1, hx2⟩ := pi_cast a
  have hO := hI.1
  have h6 := hO.2.2.1
  have g0 := s_demandRobot (x := x) (M := M) hx1 hx2
  rw [hI.2.1.2.1.1] at g0
  have m0 := s_acRef (σ := sg M) (P := M) rfl hO hx1 hx2
  by_cases c : 0 ≤ x ∧ x < sg M 6
  · obtain ⟨r, rfl⟩ : ∃ r : Nat, x = r := ⟨x.toNat, by omega⟩
    rw [if_pos c] at g0 m0
    rw [Int.toNat_natCast] at m0
    have r0 : g_X8_robotOf 1 (pI r) M = some (1 + 15 + 5 * r, M) := s_robotOf M (by omega)
    rw [show 1 + 15 + 5 * r = 16 + 5 * r by omega] at r0
    have a0 := s_activityOf hI c.2
    by_cases d : ro (sg M) r 10 = 0
    · rw [if_pos d] at a0 m0
      refine ⟨2, FP.fconst0, M, am_s M 174 0 (pI 2), ?_, ?_, thr_g, fun q => absurd q (by decide), INV_thrown hI _⟩
      · unfold g_L_activity g_X9_activity
        rw [g0, am_bx_inl, r0, am_b_some, a0, am_bx_inr]
        rfl
      · unfold g_X10_activity
        rw [m0, am_b_some, if_neg (by decide)]
    · rw [if_neg d] at a0
      have hv := acv_nn hO c.2 d
      have hP := INV_ds hI 0 (FP.f2d (acv (sg M) r))
      have m1 := s_acRef (σ := sg M) (P := am_ds M 187 0 (FP.f2d (acv (sg M) r))) rfl hO hx1 hx2
      rw [if_pos c, Int.toNat_natCast, if_neg d] at m1
      refine ⟨0, acv (sg M) r, am_ds M 187 0 (FP.f2d (acv (sg M) r)), am_s (am_ds M 187 0 (FP.f2d (acv (sg M) r))) 174 0 (pI 0), ?_, ?_, thr_g, fun _ => ⟨hv, dg_ds⟩, INV_thrown hP _⟩
      · unfold g_L_activity g_X9_activity
        rw [g0, am_bx_inl, r0, am_b_some, a0, am_bx_inl]
        show am_c _ (am_ci _ _ _) = _
        rw [am_c_true (nn_f2d hv)]
        rfl
      · unfold g_X10_activity
        rw [m1, am_b_some, if_pos (by decide), s_active (σ := sg M) (sg_t.trans sg_ds) hO c.2 d]
        rfl
  · rw [if_neg c] at g0 m0
    refine ⟨1, FP.fconst0, M, am_s M 174 0 (pI 1), ?_, ?_, thr_g, fun q => absurd q (by decide), INV_thrown hI _⟩
    · unfold g_L_activity g_X9_activity
      rw [g0, am_bx_inr]
      rfl
    · unfold g_X10_activity
      rw [m0, am_b_some, if_neg (by decide)]
/-- how many tasks are done, and the sum of their delays -/
def dlN (σ : Nat → Int) : Nat → Nat
  | 0 => 0
  | j + 1 => if it σ j 4 = 2 then dlN σ j + 1 else dlN σ j
def dlS (σ : Nat → Int) : Nat → Int32
  | 0 => 0
  | j + 1 => if it σ j 4 = 2 then dlS σ j + (pI (it σ j 7) - (if pI (it σ j 2) < pI (it σ j 8) then pI (it σ j 8) else pI (it σ j 2))) else dlS σ j
theorem dlN_s (σ : Nat → Int) (j : Nat) : dlN σ (j + 1) = if it σ j 4 = 2 then dlN σ j + 1 else dlN σ j := rfl
theorem dlS_s (σ : Nat → Int) (j : Nat) : dlS σ (j + 1) = if it σ j 4 = 2 then dlS σ j + (pI (it σ j 7) - (if pI (it σ j 2) < pI (it σ j 8) then pI (it σ j 8) else pI (it σ j 2))) else dlS σ j := rfl
theorem dlN_le (σ : Nat → Int) : ∀ n, dlN σ n ≤ n
  | 0 => Nat.le_refl _
  | n + 1 => by
    have := dlN_le σ n
    unfold dlN
    split <;> omega
theorem s_delays {M : am_M} (hI : INV M) : g_X9_averageDelay_L6 am_fu (0 : Int32) (0 : Int32) (0 : Int32) M = some ((pI (dlN (sg M) (sg M 7).toNat), dlS (sg M) (sg M 7).toNat), M) := by
  have hO := hI.1
  have h7 := hO.2.2.2.1
  have e3 : iv M 1 3 = sg M 7 := hI.2.1.2.1.2.1
  obtain ⟨r, g1, e1⟩ := lo_for (fun m (s : Int32 × Int32 × Int32 × am_M) => g_X9_averageDelay_L6 m s.1 s.2.1 s.2.2.1 s.2.2.2) (fun q s => s = (pI (dlN (sg M) q), dlS (sg M) q, pI (q : Nat), M)) (fun s => s = ((pI (dlN (sg M) (sg M 7).toNat), dlS (sg M) (sg M 7).toNat), M)) 0 (sg M 7).toNat (pI 0, 0, pI 0, M) rfl (by omega) (by unfold am_fu; omega) (by
    rintro m q s hq rfl
    left
    have hT := hI.2.1.2.2.2.2 q (by omega)
    have hF := hO.2.2.2.2.2.2.1 q (by omega)
    have hF4 := hF.2.2.2.2.2.1
    have t0 : g_X8_taskOf 1 (pI q) M = some (1 + 40 + q, M) := s_taskOf M (by omega)
    have hst : g_X9_averageDelay_L6 (m + 1) (pI (dlN (sg M) q)) (dlS (sg M) q) (pI q) M = (if it (sg M) q 4 = 2 then g_X9_averageDelay_L6 m (pI (dlN (sg M) q + 1)) (dlS (sg M) q + (pI (it (sg M) q 7) - (if pI (it (sg M) q 2) < pI (it (sg M) q 8) then pI (it (sg M) q 8) else pI (it (sg M) q 2)))) (pI (q + 1)) M else g_X9_averageDelay_L6 m (pI (dlN (sg M) q)) (dlS (sg M) q) (pI (q + 1)) M) := by
      rw [g_X9_averageDelay_L6, if_neg (show ¬ (am_g M 1 3 ≤ pI q) by
        rw [pi_g, e3, pi_le (by omega) (by omega) (by omega) (by omega)]
        omega), t0, am_b_some]
      simp only [pi_g]
      rw [hT.2.2.1, hT.1.2.2.1, hT.2.1, hT.2.2.2.2.2]
      by_cases c : it (sg M) q 4 = 2
      · rw [if_pos c, if_pos (show pI (it (sg M) q 4) = (2 : Int32) by rw [c]; rfl)]
        rw [show (1 : Int32) = pI 1 from rfl, pi_add, pi_add]
      · rw [if_neg c, if_neg (show ¬ (pI (it (sg M) q 4) = (2 : Int32)) from fun h => c ((pi_eq (b := 2) (by omega) (by omega) (by omega) (by omega)).mp h))]
        rw [show (1 : Int32) = pI 1 from rfl, pi_add]
    refine ⟨_, hst.trans ?_, rfl⟩
    dsimp only
    rw [dlN_s, dlS_s]
    by_cases c : it (sg M) q 4 = 2
    · rw [if_pos c, if_pos c, if_pos c]
      rfl
    · rw [if_neg c, if_neg c, if_neg c]
      rfl) (by
    rintro m s rfl
    refine ⟨_, ?_, rfl⟩
    dsimp only
    rw [g_X9_averageDelay_L6, if_pos (show am_g M 1 3 ≤ pI ((sg M 7).toNat : Nat) by
      rw [pi_g, e3, pi_le (by omega) (by omega) (by omega) (by omega)]
      omega)])
  subst e1
  exact g1
theorem s_mdelays {σ : Nat → Int} {P : am_M} (hs : sg P = σ) (hO : OK σ) : g_X10_averageDelay_L6 am_fu (0 : Int32) (0 : Int32) (0 : Int32) P = some ((dlS σ (σ 7).toNat, pI (dlN σ (σ 7).toNat)), P) := by
  have h7 := hO.2.2.2.1
  have e3 : iv P 175 7 = σ 7 := by rw [← hs]; rfl
  obtain ⟨r, g1, e1⟩ := lo_for (fun m (s : Int32 × Int32 × Int32 × am_M) => g_X10_averageDelay_L6 m s.1 s.2.1 s.2.2.1 s.2.2.2) (fun q s => s = (dlS σ q, pI (dlN σ q), pI (q : Nat), P)) (fun s => s = ((dlS σ (σ 7).toNat, pI (dlN σ (σ 7).toNat)), P)) 0 (σ 7).toNat (0, pI 0, pI 0, P) rfl (by omega) (by unfold am_fu; omega) (by
    rintro m q s hq rfl
    left
    have hF := hO.2.2.2.2.2.2.1 q (by omega)
    have hF4 := hF.2.2.2.2.2.1
    have i4 : g_X10_item (pI q) (4 : Int32) P = some (pI (it σ q 4), P) := s_item2 hs (j := q) (w := 4) (by omega) (by omega)
    have i7 : g_X10_item (pI q) (7 : Int32) P = some (pI (it σ q 7), P) := s_item2 hs (j := q) (w := 7) (by omega) (by omega)
    have i2 : g_X10_item (pI q) (2 : Int32) P = some (pI (it σ q 2), P) := s_item2 hs (j := q) (w := 2) (by omega) (by omega)
    have i8 : g_X10_item (pI q) (8 : Int32) P = some (pI (it σ q 8), P) := s_item2 hs (j := q) (w := 8) (by omega) (by omega)
    have hst : g_X10_averageDelay_L6 (m + 1) (dlS σ q) (pI (dlN σ q)) (pI q) P = (if it σ q 4 = 2 then g_X10_averageDelay_L6 m (dlS σ q + (pI (it σ q 7) - (if pI (it σ q 2) < pI (it σ q 8) then pI (it σ q 8) else pI (it σ q 2)))) (pI (dlN σ q + 1)) (pI (q + 1)) P else g_X10_averageDelay_L6 m (dlS σ q) (pI (dlN σ q)) (pI (q + 1)) P) := by
      rw [g_X10_averageDelay_L6]
      show (if am_g P 175 7 ≤ pI q then _ else _) = _
      rw [if_neg (show ¬ (am_g P 175 7 ≤ pI q) by
        rw [pi_g, e3, pi_le (by omega) (by omega) (by omega) (by omega)]
        omega), i4, am_b_some]
      by_cases c : it σ q 4 = 2
      · rw [if_pos c, if_pos (show pI (it σ q 4) = (2 : Int32) by rw [c]; rfl), i7, am_b_some, i2, am_b_some, i8, am_b_some]
        rw [show (1 : Int32) = pI 1 from rfl, pi_add, pi_add]
      · rw [if_neg c, if_neg (show ¬ (pI (it σ q 4) = (2 : Int32)) from fun h => c ((pi_eq (b := 2) (by omega) (by omega) (by omega) (by omega)).mp h))]
        rw [show (1 : Int32) = pI 1 from rfl, pi_add]
    refine ⟨_, hst.trans ?_, rfl⟩
    dsimp only
    rw [dlN_s, dlS_s]
    by_cases c : it σ q 4 = 2
    · rw [if_pos c, if_pos c, if_pos c]
      rfl
    · rw [if_neg c, if_neg c, if_neg c]
      rfl) (by
    rintro m s rfl
    refine ⟨_, ?_, rfl⟩
    dsimp only
    rw [g_X10_averageDelay_L6]
    show (if am_g P 175 7 ≤ _ then _ else _) = _
    rw [if_pos (show am_g P 175 7 ≤ pI ((σ 7).toNat : Nat) by
      rw [pi_g, e3, pi_le (by omega) (by omega) (by omega) (by omega)]
      omega)])
  subst e1
  exact g1
theorem cs_averageDelay {M : am_M} (hI : INV M) : CSd (g_L_averageDelay M) g_X10_averageDelay := by
  have hO := hI.1
  have h7 := hO.2.2.2.1
  have g1 := s_delays hI
  have hn := dlN_le (sg M) (sg M 7).toNat
  generalize hN : dlN (sg M) (sg M 7).toNat = n at *
  generalize hS : dlS (sg M) (sg M 7).toNat = s at *
  by_cases c : n = 0
  · have m1 := s_mdelays (P := M) rfl hO
    rw [hN, hS] at m1
    subst c
    refine ⟨1, FP.dconst0, M, am_s M 174 0 (pI 1), ?_, ?_, thr_g, fun q => absurd q (by decide), INV_thrown hI _⟩
    · unfold g_L_averageDelay g_X9_averageDelay
      rw [g1, am_b_some]
      rfl
    · unfold g_X10_averageDelay
      rw [m1, am_b_some]
      rfl
  · have hv := nn_ddiv s (a := n) (by omega) (by omega)
    have hc : ¬ (pI (n : Nat) = (0 : Int32)) := fun q => by
      have := (pi_eq (a := (n : Nat)) (b := 0) (by omega) (by omega) (by omega) (by omega)).mp q
      omega
    have m1 := s_mdelays (P := am_ds M 187 0 (FP.ddiv (FP.i2d s) (FP.i2d (pI n)))) (σ := sg M) rfl hO
    rw [hN, hS] at m1
    refine ⟨0, FP.ddiv (FP.i2d s) (FP.i2d (pI n)), am_ds M 187 0 (FP.ddiv (FP.i2d s) (FP.i2d (pI n))), am_s (am_ds M 187 0 (FP.ddiv (FP.i2d s) (FP.i2d (pI n)))) 174 0 (pI 0), ?_, ?_, thr_g, fun _ => ⟨hv, dg_ds⟩, INV_thrown (INV_ds hI _ _) _⟩
    · unfold g_L_averageDelay g_X9_averageDelay
      rw [g1, am_b_some]
      dsimp only
      rw [if_neg hc, am_c_true hv]
      rfl
    · unfold g_X10_averageDelay
      rw [m1, am_b_some]
      dsimp only
      rw [if_neg hc, if_neg hc, am_c_true hv]
      rfl
end ACT
