/-! the cases sampled, sample -/
section QZ
theorem s_demandPlace {x y : Int} {M : am_M} (h1 : -2147483648 ≤ x) (h2 : x < 2147483648) (h3 : -2147483648 ≤ y) (h4 : y < 2147483648) : g_X9_demandPlace (pI x) (pI y) M = some (if (0 ≤ x ∧ x ≤ 1) ∧ (0 ≤ y ∧ y ≤ 2) then .inl () else .inr 1, M) := by
  unfold g_X9_demandPlace
  simp (disch := (first | omega | exact (iv_rng _ _ _).1 | exact (iv_rng _ _ _).2)) only [pi_lit, pi_nat, pi_add, pi_sub, pi_mul, pi_neg, pi_le, pi_lt, pi_eq, pi_cn, pi_ci, pi_g, am_b_some, iv_s, iv_ls, lg_s, lg_ls, if_true, if_false, Int.reduceEq, Int.reduceLT, Int.reduceLE, Int.reduceToNat]
  by_cases c1 : x < 0
  · rw [if_pos c1, if_neg (by omega)]
  · rw [if_neg c1]
    by_cases c2 : 2 ≤ x
    · rw [if_pos c2, if_neg (by omega)]
    · rw [if_neg c2]
      by_cases c3 : y < 0
      · rw [if_pos c3, if_neg (by omega)]
      · rw [if_neg c3]
        by_cases c4 : y < 3
        · rw [if_pos c4, if_pos (by omega)]
        · rw [if_neg c4, if_neg (by omega)]
theorem s_isPlace_t {x y : Int} {P : am_M} (h : (0 ≤ x ∧ x ≤ 1) ∧ (0 ≤ y ∧ y ≤ 2)) : g_X10_isPlace (pI x) (pI y) P = some (pI 1, P) := by
  unfold g_X10_isPlace
  have m1 : g_X10_in (pI x) (0 : Int32) (1 : Int32) P = some (pI 1, P) := min_t (b := 0) (c := 1) (by omega) (by omega) (by omega) (by omega)
  have m2 : g_X10_in (pI y) (0 : Int32) (2 : Int32) P = some (pI 1, P) := min_t (b := 0) (c := 2) (by omega) (by omega) (by omega) (by omega)
  rw [m1, am_b_some, if_neg ci1, m2, am_b_some, if_neg ci1]
  rfl
theorem s_isPlace_f {x y : Int} {P : am_M} (h1 : -2147483648 ≤ x) (h2 : x < 2147483648) (h3 : -2147483648 ≤ y) (h4 : y < 2147483648) (h : ¬ ((0 ≤ x ∧ x ≤ 1) ∧ (0 ≤ y ∧ y ≤ 2))) : g_X10_isPlace (pI x) (pI y) P = some (pI 0, P) := by
  unfold g_X10_isPlace
  by_cases c : 0 ≤ x ∧ x ≤ 1
  · have m1 : g_X10_in (pI x) (0 : Int32) (1 : Int32) P = some (pI 1, P) := min_t (b := 0) (c := 1) (by omega) (by omega) (by omega) (by omega)
    have m2 : g_X10_in (pI y) (0 : Int32) (2 : Int32) P = some (pI 0, P) := min_f (b := 0) (c := 2) (by omega) (by omega) (by omega) (by omega) (by omega) (by omega) (fun q => h ⟨c, q⟩)
    rw [m1, am_b_some, if_neg ci1, m2, am_b_some, if_pos ci0]
    rfl
  · have m1 : g_X10_in (pI x) (0 : Int32) (1 : Int32) P = some (pI 0, P) := min_f (b := 0) (c := 1) (by omega) (by omega) (by omega) (by omega) (by omega) (by omega) c
    rw [m1, am_b_some, if_pos ci0]
    rfl
theorem cs_sampled {M : am_M} (hI : INV M) (a b e : Int32) : CS (g_L_sampled a b e M) (g_X10_sampled a b e) := by
  obtain ⟨x, rfl, hx1, hx2⟩ := pi_cast a
  obtain ⟨y, rfl, hy1, hy2⟩ := pi_cast b
  obtain ⟨z, rfl, hz1, hz2⟩ := pi_cast e
  have g0 := s_demandPlace (M := M) hx1 hx2 hy1 hy2
  have cl0 : (pI z < (0 : Int32)) = (z < 0) := pi_lt (b := 0) hz1 hz2 (by omega) (by omega)
  have cl4 : (pI z < (4 : Int32)) = (z < 4) := pi_lt (b := 4) hz1 hz2 (by omega) (by omega)
  by_cases c : (0 ≤ x ∧ x ≤ 1) ∧ (0 ≤ y ∧ y ≤ 2)
  · rw [if_pos c] at g0
    by_cases d : 0 ≤ z ∧ z ≤ 3
    · obtain ⟨q, eq⟩ : ∃ q : Nat, (q : Int) = 3 * x + y := ⟨(3 * x + y).toNat, by omega⟩
      have hq := hI.2.2.2.2.1 q (by omega)
      have c1 : pI x * (3 : Int32) + pI y = pI (q : Nat) := by rw [show (3 : Int32) = pI 3 from rfl, pi_mul, pi_add, show x * 3 + y = (q : Int) by omega]
      have c2 : (12 : Int32) * pI x + (4 : Int32) * pI y = pI (4 * (q : Int)) := by rw [show (12 : Int32) = pI 12 from rfl, show (4 : Int32) = pI 4 from rfl, pi_mul, pi_mul, pi_add, show 12 * x + 4 * y = 4 * (q : Int) by omega]
      have m1 : ∀ P, g_X10_in (pI z) (0 : Int32) (3 : Int32) P = some (pI 1, P) := fun P => min_t (b := 0) (c := 3) (by omega) (by omega) (by omega) (by omega)
      have hr := iv_rng M 178 (4 * q)
      rcases hq with ⟨q1, q2⟩ | ⟨q1, q2, q3⟩
      · refine CS_no1 (k := 3) (v := 0) hI ?_ ?_ (by omega)
        · unfold g_L_sampled g_X9_sampled
          rw [g0, am_bx_inl]
          simp only [cl0, cl4]
          rw [if_neg (by omega), if_pos (by omega), c1, s_at1 _ _ _ (by omega) (by omega) (by omega), am_b_some, Int.toNat_natCast, q1, if_pos ci0]
          rfl
        · unfold g_X10_sampled
          rw [show am_s M 174 0 (0 : Int32) = am_s M 174 0 (pI 0) from rfl, s_isPlace_t c, am_b_some, if_neg ci1, m1, am_b_some, if_neg ci1, c2, pi_ci (by omega) (by omega) (by omega), pi_cn (by omega) (by omega), show (4 * (q : Int)).toNat = 4 * q by omega, pi_g, iv_c (by decide), q2, if_pos (show pI (-1) = (-1 : Int32) from rfl)]
          rfl
      · have hv := q3 z.toNat (by omega)
        refine CS_yes (O := M) (v := pI (iv M 178 (4 * q + z.toNat))) (Q := am_s (am_ls M 186 0 (pI (iv M 178 (4 * q + z.toNat))).toInt64) 174 0 (pI 0)) ?_ ?_ (thr_s (by omega) (by omega)) rfl (INV_thrown (INV_out hI _ _) _)
        · unfold g_L_sampled g_X9_sampled
          have c3 : pI (q : Nat) * (4 : Int32) + pI z = pI (4 * (q : Int) + z) := by rw [show (4 : Int32) = pI 4 from rfl, pi_mul, pi_add, show (q : Int) * 4 + z = 4 * q + z by omega]
          rw [g0, am_bx_inl]
          simp only [cl0, cl4]
          rw [if_neg (by omega), if_pos (by omega), c1, s_at1 _ _ _ (by omega) (by omega) (by omega), am_b_some, Int.toNat_natCast, q1, if_neg ci1, c3, s_at1 _ _ _ (by omega) (by omega) (by omega), am_b_some, show (4 * (q : Int) + z).toNat = 4 * q + z.toNat by omega, hv]
          rfl
        · unfold g_X10_sampled
          have c3 : pI (4 * (q : Int)) + pI z = pI (4 * (q : Int) + z) := pi_add _ _
          have e178 : ∀ k, iv (am_s (am_ls M 186 0 (pI (iv M 178 (4 * q + z.toNat))).toInt64) 174 0 (pI 0)) 178 k = iv M 178 k := fun k => iv_c (by decide)
          rw [show am_s (am_ls M 186 0 (pI (iv M 178 (4 * q + z.toNat))).toInt64) 174 0 (0 : Int32) = am_s (am_ls M 186 0 (pI (iv M 178 (4 * q + z.toNat))).toInt64) 174 0 (pI 0) from rfl, s_isPlace_t c, am_b_some, if_neg ci1, m1, am_b_some, if_neg ci1, c2, pi_ci (by omega) (by omega) (by omega), pi_cn (by omega) (by omega), show (4 * (q : Int)).toNat = 4 * q by omega, pi_g, e178, if_neg (show ¬ (pI (iv M 178 (4 * q)) = (-1 : Int32)) from fun w => q2 ((pi_eq (a := iv M 178 (4 * q)) (b := -1) hr.1 hr.2 (by omega) (by omega)).mp w)), c3, pi_ci (by omega) (by omega) (by omega), pi_cn (by omega) (by omega), show (4 * (q : Int) + z).toNat = 4 * q + z.toNat by omega, pi_g, e178]
    · refine CS_no1 (k := 2) (v := 0) hI ?_ ?_ (by omega)
      · unfold g_L_sampled g_X9_sampled
        rw [g0, am_bx_inl]
        simp only [cl0, cl4]
        by_cases e : z < 0
        · rw [if_pos e]; rfl
        · rw [if_neg e, if_neg (by omega)]; rfl
      · unfold g_X10_sampled
        have m1 : g_X10_in (pI z) (0 : Int32) (3 : Int32) (am_s M 174 0 (pI 0)) = some (pI 0, am_s M 174 0 (pI 0)) := min_f (b := 0) (c := 3) (by omega) (by omega) (by omega) (by omega) (by omega) (by omega) d
        rw [show am_s M 174 0 (0 : Int32) = am_s M 174 0 (pI 0) from rfl, s_isPlace_t c, am_b_some, if_neg ci1, m1, am_b_some, if_pos ci0]
        rfl
  · rw [if_neg c] at g0
    refine CS_no1 (k := 1) (v := 0) hI ?_ ?_ (by omega)
    · unfold g_L_sampled g_X9_sampled
      rw [g0, am_bx_inr]
      rfl
    · unfold g_X10_sampled
      rw [show am_s M 174 0 (0 : Int32) = am_s M 174 0 (pI 0) from rfl, s_isPlace_f hx1 hx2 hy1 hy2 c, am_b_some, if_pos ci0]
      rfl
def s3 (f : Nat → Int) : Nat → Int
  | 0 => 0
  | k + 1 => s3 f k + f k
theorem s3_congr {f g : Nat → Int} {n : Nat} (h : ∀ k, k < n → f k = g k) : s3 f n = s3 g n := by
  induction n with
  | zero => rfl
  | succ n ih => rw [s3, s3, ih (fun k hk => h k (by omega)), h n (by omega)]
theorem s_held {x : Nat} {N : am_M} (hx : x ≤ 1) (h : ∀ k, k < 6 → 0 ≤ iv N 167 k ∧ iv N 167 k ≤ 1) : g_X6_held (pI x) N = some (pI (s3 (fun k => iv N 167 (3 * x + k)) 3), N) := by
  obtain ⟨s, g1, e1⟩ := lo_for (fun m (s : Int32 × Int32 × am_M) => g_X6_held_L4 (pI x) m s.1 s.2.1 s.2.2) (fun q s => s = (pI (s3 (fun k => iv N 167 (3 * x + k)) q), pI (q : Nat), N)) (fun s => s = (pI (s3 (fun k => iv N 167 (3 * x + k)) 3), N)) 0 3 (pI 0, pI 0, N) rfl (by omega) (by unfold am_fu; omega) (by
    rintro m q s hq rfl
    left
    refine ⟨_, ?_, rfl⟩
    dsimp only
    rw [g_X6_held_L4, s3]
    have g2 : g_X9_at 167 6 (pI ((x : Int) * 3 + q)) N = some (pI (iv N 167 (3 * x + q)), N) := by
      rw [s_at1 _ _ _ (by omega) (by omega) (by omega), show ((x : Int) * 3 + q).toNat = 3 * x + q by omega]
    simp (disch := (first | omega | exact (iv_rng _ _ _).1 | exact (iv_rng _ _ _).2)) only [pi_lit, pi_nat, pi_add, pi_sub, pi_mul, pi_neg, pi_le, pi_lt, pi_eq, pi_cn, pi_ci, pi_g, am_b_some, iv_s, iv_ls, lg_s, lg_ls, if_true, if_false, Int.reduceEq, Int.reduceLT, Int.reduceLE, Int.reduceToNat, g2]
    rw [if_neg (by omega)]
    rfl) (by
    rintro m s rfl
    refine ⟨_, ?_, rfl⟩
    dsimp only
    rw [g_X6_held_L4]
    simp (disch := (first | omega | exact (iv_rng _ _ _).1 | exact (iv_rng _ _ _).2)) only [pi_lit, pi_nat, pi_add, pi_sub, pi_mul, pi_neg, pi_le, pi_lt, pi_eq, pi_cn, pi_ci, pi_g, am_b_some, iv_s, iv_ls, lg_s, lg_ls, if_true, if_false, Int.reduceEq, Int.reduceLT, Int.reduceLE, Int.reduceToNat]
    rw [if_pos (by omega)])
  subst e1
  unfold g_X6_held
  rw [show (0 : Int32) = pI 0 from rfl, g1, am_b_some]
theorem s_mheld {x : Nat} {N : am_M} (hx : x ≤ 1) : g_X10_sample_L126 (pI x) am_fu (0 : Int32) (0 : Int32) N = some (pI (s3 (fun k => if iv N 178 (4 * (3 * x + k)) = -1 then 0 else 1) 3), N) := by
  obtain ⟨s, g1, e1⟩ := lo_for (fun m (s : Int32 × Int32 × am_M) => g_X10_sample_L126 (pI x) m s.1 s.2.1 s.2.2) (fun q s => s = (pI (s3 (fun k => if iv N 178 (4 * (3 * x + k)) = -1 then 0 else 1) q), pI (q : Nat), N)) (fun s => s = (pI (s3 (fun k => if iv N 178 (4 * (3 * x + k)) = -1 then 0 else 1) 3), N)) 0 3 (pI 0, pI 0, N) rfl (by omega) (by unfold am_fu; omega) (by
    rintro m q s hq rfl
    left
    refine ⟨_, ?_, rfl⟩
    dsimp only
    rw [g_X10_sample_L126, s3]
    simp (disch := (first | omega | exact (iv_rng _ _ _).1 | exact (iv_rng _ _ _).2)) only [pi_lit, pi_nat, pi_add, pi_sub, pi_mul, pi_neg, pi_le, pi_lt, pi_eq, pi_cn, pi_ci, pi_g, am_b_some, iv_s, iv_ls, lg_s, lg_ls, if_true, if_false, Int.reduceEq, Int.reduceLT, Int.reduceLE, Int.reduceToNat]
    rw [if_neg (by omega), show (12 * (x : Int) + 4 * q).toNat = 4 * (3 * x + q) by omega]
    by_cases h : iv N 178 (4 * (3 * x + q)) = -1
    · rw [if_pos h, if_pos h]; rfl
    · rw [if_neg h, if_neg h]; rfl) (by
    rintro m s rfl
    refine ⟨_, ?_, rfl⟩
    dsimp only
    rw [g_X10_sample_L126]
    simp (disch := (first | omega | exact (iv_rng _ _ _).1 | exact (iv_rng _ _ _).2)) only [pi_lit, pi_nat, pi_add, pi_sub, pi_mul, pi_neg, pi_le, pi_lt, pi_eq, pi_cn, pi_ci, pi_g, am_b_some, iv_s, iv_ls, lg_s, lg_ls, if_true, if_false, Int.reduceEq, Int.reduceLT, Int.reduceLE, Int.reduceToNat]
    rw [if_pos (by omega)])
  subst e1
  exact g1
theorem idle_iff {σ : Nat → Int} {r : Int} (hw : wr σ r) : pk σ r (ro σ r 2).toNat - ro σ r 3 = 0 ↔ ro σ r 2 = 0 := by
  obtain ⟨w1, w2, w3, w4, w5, w6⟩ := hw
  constructor
  · intro h
    by_cases hn : 0 < ro σ r 2
    · exfalso
      have h1 := pk_mono (σ := σ) (r := r) (k := 1) (n := (ro σ r 2).toNat) (by omega)
      have h2 : pk σ r 1 = 0 + tk (ac σ r ((0 : Nat) : Int)) := rfl
      have h3 := tk_pos (ac σ r ((0 : Nat) : Int))
      by_cases h0 : 0 < ro σ r 3
      · have h5 := w5 h0
        rw [show ((0 : Nat) : Int) = 0 from rfl, tk_ride h5.2.1] at h2
        omega
      · omega
    · omega
  · intro h
    rw [h]
    show (0 : Int) - ro σ r 3 = 0
    by_cases h0 : 0 < ro σ r 3
    · have := w5 h0; omega
    · omega
theorem s_isIdle {σ : Nat → Int} {r : Nat} {M : am_M} (hW : WD σ 1 M) (hO : OK σ) (hr : (r : Int) < σ 6) : g_X8_isIdle 1 (pI r) M = some (pI (if ro σ r 2 = 0 then 1 else 0), M) := by
  have h6 := hO.2.2.1
  have hw := (hO.2.2.2.2.2.1 r hr).1
  have b1 := (hW.2.2.2.1 r hr).1
  rw [show 1 + 16 + 5 * r = 17 + 5 * r by omega] at b1
  have c4 : am_g M 1 4 = pI (σ 0) := by rw [pi_g, hW.2.1.2.2]
  have hb : -2147483648 ≤ pk σ r (ro σ r 2).toNat - ro σ r 3 ∧ pk σ r (ro σ r 2).toNat - ro σ r 3 < 2147483648 := by
    have h3 := hw.2.2.2.2.2
    have h4 := pk_mono (σ := σ) (r := (r : Int)) (k := 0) (n := (ro σ r 2).toNat) (by omega)
    have h5 : pk σ r 0 = 0 := rfl
    have h7 := hw.2.2.2.2.1
    omega
  unfold g_X8_isIdle
  rw [s_robotOf M (by omega), am_b_some, show 1 + 15 + 5 * r + 1 = 17 + 5 * r by omega, c4, s_ticksLeft b1 hw hO.1.2, am_b_some]
  by_cases h : ro σ r 2 = 0
  · rw [if_pos h, if_pos (show pI (pk σ r (ro σ r 2).toNat - ro σ r 3) = (0 : Int32) by rw [(idle_iff hw).mpr h]; rfl)]
    rfl
  · rw [if_neg h, if_neg (show ¬ (pI (pk σ r (ro σ r 2).toNat - ro σ r 3) = (0 : Int32)) from fun q => h ((idle_iff hw).mp ((pi_eq (b := 0) hb.1 hb.2 (by omega) (by omega)).mp q)))]
    rfl
theorem s_misIdle {σ : Nat → Int} {r : Nat} {P : am_M} (hs : sg P = σ) (hw : wr σ r) (hr : r < 5) : g_X10_isIdle (pI r) P = some (pI (if ro σ r 2 = 0 then 1 else 0), P) := by
  have h2 := hw.1
  have g3 : g_X10_of (pI r) (2 : Int32) P = some (pI (ro σ r 2), P) := mof hs (r := r) (w := 2) hr (by omega)
  unfold g_X10_isIdle
  rw [g3, am_b_some]
  by_cases h : ro σ r 2 = 0
  · rw [if_pos h, if_pos (show pI (ro σ r 2) = (0 : Int32) by rw [h]; rfl)]
    rfl
  · rw [if_neg h, if_neg (show ¬ (pI (ro σ r 2) = (0 : Int32)) from fun q => h ((pi_eq (b := 0) (by omega) (by omega) (by omega) (by omega)).mp q))]
    rfl
end QZ
