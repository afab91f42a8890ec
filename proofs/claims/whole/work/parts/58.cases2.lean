/-! the cases cell, visits, statistic, count, tasksIn, busiestCell -/
section QR
theorem sg_t {M : am_M} {v : Int32} : sg (am_s M 174 0 v) = sg M := sg_s (by decide)
theorem thr_s {M : am_M} {v : Int} (h1 : -2147483648 ≤ v) (h2 : v < 2147483648) : iv (am_s M 174 0 (pI v)) 174 0 = v := by
  rw [iv_s h1 h2, if_pos ⟨rfl, rfl⟩]
/-- refused, with nothing written but the model's mark -/
theorem CS_no1 {rc : Option (Int32 × am_M)} {rm : am_M → Option (Int32 × am_M)} {M : am_M} {k : Int} {v : Int32} (hI : INV M) (h1 : rc = some (pI k, M)) (h2 : rm M = some (v, am_s (am_s M 174 0 (pI 0)) 174 0 (pI k))) (hk : 0 < k ∧ k < 10) : CS rc rm :=
  CS_no (M := M) (k := k) h1 h2 (thr_s (by omega) (by omega)) (fun q => by
    have := (pi_eq (a := k) (b := 0) (by omega) (by omega) (by omega) (by omega)).mp q
    omega) (INV_thrown (INV_thrown hI _) _)
/-- answered, with nothing written but the model's mark -/
theorem CS_read {rc : Option (Int32 × am_M)} {rm : am_M → Option (Int32 × am_M)} {M : am_M} {v : Int32} (hI : INV M) (h1 : rc = some (0, am_ls M 186 0 v.toInt64)) (h2 : ∀ P, sg P = sg M → rm P = some (v, am_s P 174 0 (pI 0))) : CS rc rm :=
  CS_yes h1 (h2 _ rfl) (thr_s (by omega) (by omega)) rfl (INV_thrown (INV_out hI _ _) _)
theorem cp1 : ¬ (pI 1 = pI 0) := by decide
theorem cs_cell {M : am_M} (hI : INV M) (a : Int32) : CS (g_L_cell a M) (g_X10_cell a) := by
  obtain ⟨y, rfl, hy1, hy2⟩ := pi_cast a
  by_cases c : 0 ≤ y ∧ y < 40
  · have hv : iv M 3 y.toNat = sg M (8 + y).toNat := by
      have := hI.2.1.1.2.2.1 y.toNat (by omega)
      rw [show 8 + y.toNat = (8 + y).toNat by omega] at this
      exact this
    refine CS_read (v := pI (sg M (8 + y).toNat)) hI ?_ ?_
    · unfold g_L_cell g_X9_cell
      rw [s_demandCell hy1 hy2, if_pos c, am_bx_inl, s_at1 _ _ _ (by omega) (by omega) (by omega), am_b_some, hv]
      rfl
    · intro P hP
      have hs : sg (am_s P 174 0 (pI 0)) = sg M := sg_t.trans hP
      unfold g_X10_cell
      rw [show (0 : Int32) = pI 0 from rfl, mcell_t c, am_b_some, if_neg cp1]
      simp (disch := (first | omega | exact (iv_rng _ _ _).1 | exact (iv_rng _ _ _).2)) only [pi_lit, pi_nat, pi_add, pi_sub, pi_mul, pi_neg, pi_le, pi_lt, pi_eq, pi_cn, pi_ci, pi_g, am_b_some, iv_s, iv_ls, lg_s, lg_ls, if_true, if_false, Int.reduceEq, Int.reduceLT, Int.reduceLE, Int.reduceToNat]
      first
        | rw [← hP]; rfl
        | rfl
  · refine CS_no1 (k := 1) (v := 0) hI ?_ ?_ (by omega)
    · unfold g_L_cell g_X9_cell
      rw [s_demandCell hy1 hy2, if_neg c, am_bx_inr]
      rfl
    · unfold g_X10_cell
      rw [mcell_f hy1 hy2 c, am_b_some, if_pos ci0]
      rfl
theorem cs_visits {M : am_M} (hI : INV M) (a : Int32) : CS (g_L_visits a M) (g_X10_visits a) := by
  obtain ⟨y, rfl, hy1, hy2⟩ := pi_cast a
  by_cases c : 0 ≤ y ∧ y < 40
  · have hv : iv M (1 + 6) y.toNat = sg M (48 + y).toNat := by
      have := hI.2.1.2.2.1 y.toNat (by omega)
      rw [show 48 + y.toNat = (48 + y).toNat by omega] at this
      exact this
    refine CS_read (v := pI (sg M (48 + y).toNat)) hI ?_ ?_
    · unfold g_L_visits g_X9_visits
      rw [s_demandCell hy1 hy2, if_pos c, am_bx_inl, s_at1 _ _ _ (by omega) (by omega) (by omega), am_b_some, hv]
      rfl
    · intro P hP
      have hs : sg (am_s P 174 0 (pI 0)) = sg M := sg_t.trans hP
      unfold g_X10_visits
      rw [show (0 : Int32) = pI 0 from rfl, mcell_t c, am_b_some, if_neg cp1]
      simp (disch := (first | omega | exact (iv_rng _ _ _).1 | exact (iv_rng _ _ _).2)) only [pi_lit, pi_nat, pi_add, pi_sub, pi_mul, pi_neg, pi_le, pi_lt, pi_eq, pi_cn, pi_ci, pi_g, am_b_some, iv_s, iv_ls, lg_s, lg_ls, if_true, if_false, Int.reduceEq, Int.reduceLT, Int.reduceLE, Int.reduceToNat]
      first
        | rw [← hP]; rfl
        | rfl
  · refine CS_no1 (k := 1) (v := 0) hI ?_ ?_ (by omega)
    · unfold g_L_visits g_X9_visits
      rw [s_demandCell hy1 hy2, if_neg c, am_bx_inr]
      rfl
    · unfold g_X10_visits
      rw [mcell_f hy1 hy2 c, am_b_some, if_pos ci0]
      rfl
theorem min_t {a b c : Int} {M : am_M} (h1 : -2147483648 ≤ b) (h2 : b ≤ a) (h3 : a ≤ c) (h4 : c < 2147483648) : g_X10_in (pI a) (pI b) (pI c) M = some (pI 1, M) := by
  rw [s_in M (by omega) (by omega) (by omega) (by omega) (by omega) (by omega), if_pos ⟨h2, h3⟩]
theorem min_f {a b c : Int} {M : am_M} (h1 : -2147483648 ≤ b) (h2 : b < 2147483648) (h3 : -2147483648 ≤ a) (h4 : a < 2147483648) (h5 : -2147483648 ≤ c) (h6 : c < 2147483648) (h : ¬ (b ≤ a ∧ a ≤ c)) : g_X10_in (pI a) (pI b) (pI c) M = some (pI 0, M) := by
  rw [s_in M (by omega) (by omega) (by omega) (by omega) (by omega) (by omega), if_neg h]
theorem cs_statistic {M : am_M} (hI : INV M) (a b : Int32) : CS (g_L_statistic a b M) (g_X10_statistic a b) := by
  obtain ⟨x, rfl, hx1, hx2⟩ := pi_cast a
  obtain ⟨y, rfl, hy1, hy2⟩ := pi_cast b
  have hO := hI.1
  have h6 := hO.2.2.1
  have g0 := s_demandRobot (x := x) (M := M) hx1 hx2
  rw [hI.2.1.2.1.1] at g0
  by_cases c : 0 ≤ x ∧ x < sg M 6
  · obtain ⟨r, rfl⟩ : ∃ r : Nat, x = r := ⟨x.toNat, by omega⟩
    rw [if_pos c] at g0
    by_cases d : 0 ≤ y ∧ y ≤ 4
    · have hv : iv M (20 + 5 * r) y.toNat = ro (sg M) r (5 + y) := by
        have := (hI.2.1.2.2.2.1 r c.2).2.2.2.2 y.toNat (by omega)
        rw [show 5 + ((y.toNat : Nat) : Int) = 5 + y by omega, show 1 + 19 + 5 * r = 20 + 5 * r by omega] at this
        exact this
      refine CS_read (v := pI (ro (sg M) r (5 + y))) hI ?_ ?_
      · unfold g_L_statistic g_X9_statistic
        rw [g0, am_bx_inl, s_robotOf M (by omega), am_b_some, show 1 + 15 + 5 * r + 4 = 20 + 5 * r by omega, s_at1 _ _ _ (by omega) (by omega) (by omega), am_b_some, hv]
        simp (disch := (first | omega | exact (iv_rng _ _ _).1 | exact (iv_rng _ _ _).2)) only [pi_lit, pi_nat, pi_add, pi_sub, pi_mul, pi_neg, pi_le, pi_lt, pi_eq, pi_cn, pi_ci, pi_g, am_b_some, iv_s, iv_ls, lg_s, lg_ls, if_true, if_false, Int.reduceEq, Int.reduceLT, Int.reduceLE, Int.reduceToNat]
        rw [if_neg (by omega), if_pos (by omega)]
        rfl
      · intro P hP
        have hs : sg (am_s P 174 0 (pI 0)) = sg M := sg_t.trans hP
        unfold g_X10_statistic
        rw [show (0 : Int32) = pI 0 from rfl, mrob_t (σ := sg M) hs hO c, am_b_some, if_neg cp1, show (4 : Int32) = pI 4 from rfl, min_t (by omega) (by omega) (by omega) (by omega), am_b_some, if_neg cp1, show (5 : Int32) + pI y = pI (5 + y) from by rw [show (5 : Int32) = pI 5 from rfl, pi_add], s_of _ (by omega) (by omega), am_b_some, hs]
    · refine CS_no1 (k := 2) (v := 0) hI ?_ ?_ (by omega)
      · unfold g_L_statistic g_X9_statistic
        rw [g0, am_bx_inl]
        simp (disch := (first | omega | exact (iv_rng _ _ _).1 | exact (iv_rng _ _ _).2)) only [pi_lit, pi_nat, pi_add, pi_sub, pi_mul, pi_neg, pi_le, pi_lt, pi_eq, pi_cn, pi_ci, pi_g, am_b_some, iv_s, iv_ls, lg_s, lg_ls, if_true, if_false, Int.reduceEq, Int.reduceLT, Int.reduceLE, Int.reduceToNat]
        by_cases e : y < 0
        · rw [if_pos e]; rfl
        · rw [if_neg e, if_neg (by omega)]; rfl
      · unfold g_X10_statistic
        rw [show (0 : Int32) = pI 0 from rfl, mrob_t (σ := sg M) sg_t hO c, am_b_some, if_neg cp1, show (4 : Int32) = pI 4 from rfl, min_f (by omega) (by omega) (by omega) (by omega) (by omega) (by omega) d, am_b_some, if_pos rfl]
        rfl
  · rw [if_neg c] at g0
    refine CS_no1 (k := 1) (v := 0) hI ?_ ?_ (by omega)
    · unfold g_L_statistic g_X9_statistic
      rw [g0, am_bx_inr]
      rfl
    · unfold g_X10_statistic
      rw [mrob_f (σ := sg M) sg_t hO hx1 hx2 c, am_b_some, if_pos ci0]
      rfl
noncomputable def cn (p : Nat → Prop) : Nat → Int
  | 0 => 0
  | k + 1 => cn p k + cif (p k) 1 0
theorem cn_rng (p : Nat → Prop) (k : Nat) : 0 ≤ cn p k ∧ cn p k ≤ k := by
  induction k with
  | zero => exact ⟨Int.le_refl _, Int.le_refl _⟩
  | succ k ih =>
    rw [cn]
    by_cases h : p k
    · rw [cif_t h]; omega
    · rw [cif_f h]; omega
theorem cn_congr {p q : Nat → Prop} {k : Nat} (h : ∀ j, j < k → (p j ↔ q j)) : cn p k = cn q k := by
  induction k with
  | zero => rfl
  | succ k ih =>
    rw [cn, cn, ih (fun j hj => h j (by omega))]
    by_cases c : p k
    · rw [cif_t c, cif_t ((h k (by omega)).mp c)]
    · rw [cif_f c, cif_f (fun z => c ((h k (by omega)).mpr z))]
theorem s_countOf {t : Nat} {k : Int} {M : am_M} (hk : -100 ≤ k ∧ k < 100) : g_X1_countOf t (pI k) M = some (pI (cn (fun c => iv M (t + 1) c = k) 40), M) := by
  obtain ⟨s, g1, e1⟩ := lo_for (fun m (s : Int32 × Int32 × am_M) => g_X1_countOf_L4 t (pI k) m s.1 s.2.1 s.2.2) (fun q s => s = (pI (cn (fun c => iv M (t + 1) c = k) q), pI (q : Nat), M)) (fun s => s = (pI (cn (fun c => iv M (t + 1) c = k) 40), M)) 0 40 (pI 0, pI 0, M) rfl (by omega) (by unfold am_fu; omega) (by
    rintro m q s hq rfl
    left
    have hr := cn_rng (fun c => iv M (t + 1) c = k) q
    refine ⟨_, ?_, rfl⟩
    dsimp only
    rw [g_X1_countOf_L4, cn]
    simp (disch := (first | omega | exact (iv_rng _ _ _).1 | exact (iv_rng _ _ _).2)) only [pi_lit, pi_nat, pi_add, pi_sub, pi_mul, pi_neg, pi_le, pi_lt, pi_eq, pi_cn, pi_ci, pi_g, am_b_some, iv_s, iv_ls, lg_s, lg_ls, if_true, if_false, Int.reduceEq, Int.reduceLT, Int.reduceLE, Int.reduceToNat, s_at1, Int.toNat_natCast]
    rw [if_neg (by omega)]
    by_cases h : iv M (t + 1) q = k
    · rw [if_pos h, cif_t h]; rfl
    · rw [if_neg h, cif_f h, Int.add_zero]; rfl) (by
    rintro m s rfl
    refine ⟨_, ?_, rfl⟩
    dsimp only
    rw [g_X1_countOf_L4]
    simp (disch := (first | omega | exact (iv_rng _ _ _).1 | exact (iv_rng _ _ _).2)) only [pi_lit, pi_nat, pi_add, pi_sub, pi_mul, pi_neg, pi_le, pi_lt, pi_eq, pi_cn, pi_ci, pi_g, am_b_some, iv_s, iv_ls, lg_s, lg_ls, if_true, if_false, Int.reduceEq, Int.reduceLT, Int.reduceLE, Int.reduceToNat]
    rw [if_pos (by omega)])
  subst e1
  unfold g_X1_countOf
  rw [show (0 : Int32) = pI 0 from rfl, g1, am_b_some]
theorem s_cellsOf {σ : Nat → Int} {k : Int} {M : am_M} (hs : sg M = σ) (hk : -100 ≤ k ∧ k < 100) : g_X10_cellsOf (pI k) M = some (pI (cn (fun c => σ (8 + c) = k) 40), M) := by
  obtain ⟨s, g1, e1⟩ := lo_for (fun m (s : Int32 × Int32 × am_M) => g_X10_cellsOf_L4 (pI k) m s.1 s.2.1 s.2.2) (fun q s => s = (pI (cn (fun c => σ (8 + c) = k) q), pI (q : Nat), M)) (fun s => s = (pI (cn (fun c => σ (8 + c) = k) 40), M)) 0 40 (pI 0, pI 0, M) rfl (by omega) (by unfold am_fu; omega) (by
    rintro m q s hq rfl
    left
    have hr := cn_rng (fun c => σ (8 + c) = k) q
    have hv : iv M 175 (8 + q) = σ (8 + q) := by rw [← hs]; rfl
    refine ⟨_, ?_, rfl⟩
    dsimp only
    rw [g_X10_cellsOf_L4, cn]
    simp (disch := (first | omega | exact (iv_rng _ _ _).1 | exact (iv_rng _ _ _).2)) only [pi_lit, pi_nat, pi_add, pi_sub, pi_mul, pi_neg, pi_le, pi_lt, pi_eq, pi_cn, pi_ci, pi_g, am_b_some, iv_s, iv_ls, lg_s, lg_ls, if_true, if_false, Int.reduceEq, Int.reduceLT, Int.reduceLE, Int.reduceToNat]
    rw [if_neg (by omega), show (8 + (q : Int)).toNat = 8 + q by omega, hv]
    by_cases h : σ (8 + q) = k
    · rw [if_pos h, cif_t h]; rfl
    · rw [if_neg h, cif_f h]; rfl) (by
    rintro m s rfl
    refine ⟨_, ?_, rfl⟩
    dsimp only
    rw [g_X10_cellsOf_L4]
    simp (disch := (first | omega | exact (iv_rng _ _ _).1 | exact (iv_rng _ _ _).2)) only [pi_lit, pi_nat, pi_add, pi_sub, pi_mul, pi_neg, pi_le, pi_lt, pi_eq, pi_cn, pi_ci, pi_g, am_b_some, iv_s, iv_ls, lg_s, lg_ls, if_true, if_false, Int.reduceEq, Int.reduceLT, Int.reduceLE, Int.reduceToNat]
    rw [if_pos (by omega)])
  subst e1
  unfold g_X10_cellsOf
  rw [show (0 : Int32) = pI 0 from rfl, g1, am_b_some]
theorem cq0 : pI 0 = (0 : Int32) := rfl
theorem cq1 : pI 1 = (1 : Int32) := rfl
theorem cq2 : pI 2 = (2 : Int32) := rfl
theorem cq3 : pI 3 = (3 : Int32) := rfl
theorem cq4 : pI 4 = (4 : Int32) := rfl
theorem cq5 : pI 5 = (5 : Int32) := rfl
theorem cq6 : pI 6 = (6 : Int32) := rfl
theorem cq7 : pI 7 = (7 : Int32) := rfl
theorem cs_count {M : am_M} (hI : INV M) (a : Int32) : CS (g_L_count a M) (g_X10_count a) := by
  obtain ⟨y, rfl, hy1, hy2⟩ := pi_cast a
  have hW := hI.2.1
  have hkd : ∀ k, cn (fun c => iv M (1 + 1 + 1) c = k) 40 = cn (fun c => sg M (8 + c) = k) 40 := fun k => cn_congr (fun c hc => by rw [show iv M (1 + 1 + 1) c = sg M (8 + c) from hW.1.2.2.1 c hc])
  by_cases y0 : y = 0
  · subst y0
    refine CS_read (v := pI (sg M 6)) hI ?_ ?_
    · unfold g_L_count g_X9_count
      rw [if_pos cq0, pi_g, hW.2.1.1]
      rfl
    · intro P hP
      have hs : sg (am_s P 174 0 (pI 0)) = sg M := sg_t.trans hP
      unfold g_X10_count
      rw [if_pos cq0]
      simp (disch := (first | omega | exact (iv_rng _ _ _).1 | exact (iv_rng _ _ _).2)) only [pi_lit, pi_nat, pi_add, pi_sub, pi_mul, pi_neg, pi_le, pi_lt, pi_eq, pi_cn, pi_ci, pi_g, am_b_some, iv_s, iv_ls, lg_s, lg_ls, if_true, if_false, Int.reduceEq, Int.reduceLT, Int.reduceLE, Int.reduceToNat]
      first
        | rw [← hP]; rfl
        | rfl
  · by_cases y1 : y = 1
    · subst y1
      refine CS_read (v := pI (sg M 1)) hI ?_ ?_
      · unfold g_L_count g_X9_count
        rw [if_neg (by decide), if_pos cq1, pi_g, show iv M (1 + 1) 3 = sg M 1 from hW.1.1]
        rfl
      · intro P hP
        have hs : sg (am_s P 174 0 (pI 0)) = sg M := sg_t.trans hP
        unfold g_X10_count
        rw [if_neg (by decide), if_pos cq1]
        simp (disch := (first | omega | exact (iv_rng _ _ _).1 | exact (iv_rng _ _ _).2)) only [pi_lit, pi_nat, pi_add, pi_sub, pi_mul, pi_neg, pi_le, pi_lt, pi_eq, pi_cn, pi_ci, pi_g, am_b_some, iv_s, iv_ls, lg_s, lg_ls, if_true, if_false, Int.reduceEq, Int.reduceLT, Int.reduceLE, Int.reduceToNat]
        rw [← hP]
        rfl
    · by_cases y2 : y = 2
      · subst y2
        refine CS_read (v := pI (sg M 7)) hI ?_ ?_
        · unfold g_L_count g_X9_count
          rw [if_neg (by decide), if_neg (by decide), if_pos cq2, pi_g, hW.2.1.2.1]
          rfl
        · intro P hP
          have hs : sg (am_s P 174 0 (pI 0)) = sg M := sg_t.trans hP
          unfold g_X10_count
          rw [if_neg (by decide), if_neg (by decide), if_pos cq2]
          simp (disch := (first | omega | exact (iv_rng _ _ _).1 | exact (iv_rng _ _ _).2)) only [pi_lit, pi_nat, pi_add, pi_sub, pi_mul, pi_neg, pi_le, pi_lt, pi_eq, pi_cn, pi_ci, pi_g, am_b_some, iv_s, iv_ls, lg_s, lg_ls, if_true, if_false, Int.reduceEq, Int.reduceLT, Int.reduceLE, Int.reduceToNat]
          rw [← hP]
          rfl
      · by_cases y3 : y = 3
        · subst y3
          refine CS_read (v := pI (cn (fun c => sg M (8 + c) = 1) 40)) hI ?_ ?_
          · unfold g_L_count g_X9_count
            rw [if_neg (by decide), if_neg (by decide), if_neg (by decide), if_pos cq3, show (1 : Int32) = pI 1 from rfl, s_countOf (by omega), am_b_some, hkd]
            rfl
          · intro P hP
            have hs : sg (am_s P 174 0 (pI 0)) = sg M := sg_t.trans hP
            unfold g_X10_count
            rw [if_neg (by decide), if_neg (by decide), if_neg (by decide), if_pos cq3, show am_s P 174 0 (0 : Int32) = am_s P 174 0 (pI 0) from rfl, show (1 : Int32) = pI 1 from rfl, s_cellsOf (σ := sg M) hs (by omega), am_b_some]
        · by_cases y4 : y = 4
          · subst y4
            refine CS_read (v := pI (cn (fun c => sg M (8 + c) = 2) 40)) hI ?_ ?_
            · unfold g_L_count g_X9_count
              rw [if_neg (by decide), if_neg (by decide), if_neg (by decide), if_neg (by decide), if_pos cq4, show (2 : Int32) = pI 2 from rfl, s_countOf (by omega), am_b_some, hkd]
              rfl
            · intro P hP
              have hs : sg (am_s P 174 0 (pI 0)) = sg M := sg_t.trans hP
              unfold g_X10_count
              rw [if_neg (by decide), if_neg (by decide), if_neg (by decide), if_neg (by decide), if_pos cq4, show am_s P 174 0 (0 : Int32) = am_s P 174 0 (pI 0) from rfl, show (2 : Int32) = pI 2 from rfl, s_cellsOf (σ := sg M) hs (by omega), am_b_some]
          · by_cases y5 : y = 5
            · subst y5
              refine CS_read (v := pI (sg M 0)) hI ?_ ?_
              · unfold g_L_count g_X9_count
                rw [if_neg (by decide), if_neg (by decide), if_neg (by decide), if_neg (by decide), if_neg (by decide), if_pos cq5, pi_g, hW.2.1.2.2]
                rfl
              · intro P hP
                have hs : sg (am_s P 174 0 (pI 0)) = sg M := sg_t.trans hP
                unfold g_X10_count
                rw [if_neg (by decide), if_neg (by decide), if_neg (by decide), if_neg (by decide), if_neg (by decide), if_pos cq5]
                simp (disch := (first | omega | exact (iv_rng _ _ _).1 | exact (iv_rng _ _ _).2)) only [pi_lit, pi_nat, pi_add, pi_sub, pi_mul, pi_neg, pi_le, pi_lt, pi_eq, pi_cn, pi_ci, pi_g, am_b_some, iv_s, iv_ls, lg_s, lg_ls, if_true, if_false, Int.reduceEq, Int.reduceLT, Int.reduceLE, Int.reduceToNat]
                rw [← hP]
                rfl
            · have hne : ∀ k : Int, k ≠ y → -100 ≤ k → k < 100 → ¬ (pI y = pI k) := fun k h1 h2 h3 => by
                rw [pi_eq hy1 hy2 (by omega) (by omega)]
                exact fun q => h1 q.symm
              refine CS_no1 (k := 1) (v := 0) hI ?_ ?_ (by omega)
              · unfold g_L_count g_X9_count
                rw [if_neg (show ¬ (pI y = (0 : Int32)) from hne 0 (by omega) (by omega) (by omega)), if_neg (show ¬ (pI y = (1 : Int32)) from hne 1 (by omega) (by omega) (by omega)), if_neg (show ¬ (pI y = (2 : Int32)) from hne 2 (by omega) (by omega) (by omega)), if_neg (show ¬ (pI y = (3 : Int32)) from hne 3 (by omega) (by omega) (by omega)), if_neg (show ¬ (pI y = (4 : Int32)) from hne 4 (by omega) (by omega) (by omega)), if_neg (show ¬ (pI y = (5 : Int32)) from hne 5 (by omega) (by omega) (by omega))]
                rfl
              · unfold g_X10_count
                rw [if_neg (show ¬ (pI y = (0 : Int32)) from hne 0 (by omega) (by omega) (by omega)), if_neg (show ¬ (pI y = (1 : Int32)) from hne 1 (by omega) (by omega) (by omega)), if_neg (show ¬ (pI y = (2 : Int32)) from hne 2 (by omega) (by omega) (by omega)), if_neg (show ¬ (pI y = (3 : Int32)) from hne 3 (by omega) (by omega) (by omega)), if_neg (show ¬ (pI y = (4 : Int32)) from hne 4 (by omega) (by omega) (by omega)), if_neg (show ¬ (pI y = (5 : Int32)) from hne 5 (by omega) (by omega) (by omega))]
                rfl
theorem s_tasksIn9 {M : am_M} (hI : INV M) {k : Int} (hk : 0 ≤ k ∧ k ≤ 3) : g_X9_tasksIn_L24 (pI k) am_fu (pI 0) (pI 0) M = some (pI (cn (fun j => it (sg M) j 4 = k) (sg M 7).toNat), M) := by
  have h7 := hI.1.2.2.2.1
  obtain ⟨s, g1, e1⟩ := lo_for (fun m (s : Int32 × Int32 × am_M) => g_X9_tasksIn_L24 (pI k) m s.1 s.2.1 s.2.2) (fun q s => s = (pI (cn (fun j => it (sg M) j 4 = k) q), pI (q : Nat), M)) (fun s => s = (pI (cn (fun j => it (sg M) j 4 = k) (sg M 7).toNat), M)) 0 (sg M 7).toNat (pI 0, pI 0, M) rfl (by omega) (by unfold am_fu; omega) (by
    rintro m q s hq rfl
    left
    have hr := cn_rng (fun j => it (sg M) j 4 = k) q
    refine ⟨_, ?_, rfl⟩
    dsimp only
    rw [g_X9_tasksIn_L24, cn]
    have e3 : iv M 1 3 = sg M 7 := hI.2.1.2.1.2.1
    have e5 : iv M (1 + 40 + q) 5 = it (sg M) q 4 := (hI.2.1.2.2.2.2 q (by omega)).2.2.1
    have g2 := s_taskOf (w := 1) (j := q) M (by omega)
    have hr5 := iv_rng M (1 + 40 + q) 5
    rw [e5] at hr5
    simp (disch := (first | omega | exact (iv_rng _ _ _).1 | exact (iv_rng _ _ _).2)) only [pi_lit, pi_nat, pi_add, pi_sub, pi_mul, pi_neg, pi_le, pi_lt, pi_eq, pi_cn, pi_ci, pi_g, am_b_some, iv_s, iv_ls, lg_s, lg_ls, if_true, if_false, Int.reduceEq, Int.reduceLT, Int.reduceLE, Int.reduceToNat, e3, g2, e5]
    rw [if_neg (by omega)]
    by_cases h : it (sg M) q 4 = k
    · rw [if_pos h, cif_t h]; rfl
    · rw [if_neg h, cif_f h, Int.add_zero]; rfl) (by
    rintro m s rfl
    refine ⟨_, ?_, rfl⟩
    dsimp only
    have e3 : iv M 1 3 = sg M 7 := hI.2.1.2.1.2.1
    rw [g_X9_tasksIn_L24]
    simp (disch := (first | omega | exact (iv_rng _ _ _).1 | exact (iv_rng _ _ _).2)) only [pi_lit, pi_nat, pi_add, pi_sub, pi_mul, pi_neg, pi_le, pi_lt, pi_eq, pi_cn, pi_ci, pi_g, am_b_some, iv_s, iv_ls, lg_s, lg_ls, if_true, if_false, Int.reduceEq, Int.reduceLT, Int.reduceLE, Int.reduceToNat, e3]
    rw [if_pos (by omega)])
  dsimp only at g1
  rw [g1, e1]
theorem s_tasksIn10 {σ : Nat → Int} {P : am_M} (hs : sg P = σ) (h7 : 0 ≤ σ 7 ∧ σ 7 ≤ 12) {k : Int} (hk : 0 ≤ k ∧ k ≤ 3) : g_X10_tasksIn_L24 (pI k) am_fu (pI 0) (pI 0) P = some (pI (cn (fun j => it σ j 4 = k) (σ 7).toNat), P) := by
  obtain ⟨s, g1, e1⟩ := lo_for (fun m (s : Int32 × Int32 × am_M) => g_X10_tasksIn_L24 (pI k) m s.1 s.2.1 s.2.2) (fun q s => s = (pI (cn (fun j => it σ j 4 = k) q), pI (q : Nat), P)) (fun s => s = (pI (cn (fun j => it σ j 4 = k) (σ 7).toNat), P)) 0 (σ 7).toNat (pI 0, pI 0, P) rfl (by omega) (by unfold am_fu; omega) (by
    rintro m q s hq rfl
    left
    have hr := cn_rng (fun j => it σ j 4 = k) q
    refine ⟨_, ?_, rfl⟩
    dsimp only
    rw [g_X10_tasksIn_L24, cn]
    have e3 : iv P 175 7 = σ 7 := by rw [← hs]; rfl
    have hr5 := sg_rng P (298 + 9 * q + 4)
    have hit : it σ q 4 = sg P (298 + 9 * q + 4) := by rw [hs]; exact it_nat σ q 4
    rw [← hit] at hr5
    simp (disch := (first | omega | exact (iv_rng _ _ _).1 | exact (iv_rng _ _ _).2)) only [pi_lit, pi_nat, pi_add, pi_sub, pi_mul, pi_neg, pi_le, pi_lt, pi_eq, pi_cn, pi_ci, pi_g, am_b_some, iv_s, iv_ls, lg_s, lg_ls, if_true, if_false, Int.reduceEq, Int.reduceLT, Int.reduceLE, Int.reduceToNat, e3, s_item, hs]
    rw [if_neg (by omega)]
    by_cases h : it σ q 4 = k
    · rw [if_pos h, cif_t h]; rfl
    · rw [if_neg h, cif_f h]; rfl) (by
    rintro m s rfl
    refine ⟨_, ?_, rfl⟩
    dsimp only
    have e3 : iv P 175 7 = σ 7 := by rw [← hs]; rfl
    rw [g_X10_tasksIn_L24]
    simp (disch := (first | omega | exact (iv_rng _ _ _).1 | exact (iv_rng _ _ _).2)) only [pi_lit, pi_nat, pi_add, pi_sub, pi_mul, pi_neg, pi_le, pi_lt, pi_eq, pi_cn, pi_ci, pi_g, am_b_some, iv_s, iv_ls, lg_s, lg_ls, if_true, if_false, Int.reduceEq, Int.reduceLT, Int.reduceLE, Int.reduceToNat, e3]
    rw [if_pos (by omega)])
  dsimp only at g1
  rw [g1, e1]
theorem cs_tasksIn {M : am_M} (hI : INV M) (a : Int32) : CS (g_L_tasksIn a M) (g_X10_tasksIn a) := by
  obtain ⟨y, rfl, hy1, hy2⟩ := pi_cast a
  by_cases c : 0 ≤ y ∧ y ≤ 3
  · refine CS_read (v := pI (cn (fun j => it (sg M) j 4 = y) (sg M 7).toNat)) hI ?_ ?_
    · unfold g_L_tasksIn g_X9_tasksIn
      have g1 := s_tasksIn9 hI c
      rw [if_neg (show ¬ (pI y < (0 : Int32)) from by rw [show (0 : Int32) = pI 0 from rfl, pi_lt (by omega) (by omega) (by omega) (by omega)]; omega), if_pos (show pI y ≤ (3 : Int32) from by rw [show (3 : Int32) = pI 3 from rfl, pi_le (by omega) (by omega) (by omega) (by omega)]; omega)]
      exact (congrArg (fun z => am_bt (am_b z _) _ _) g1).trans rfl
    · intro P hP
      have hs : sg (am_s P 174 0 (pI 0)) = sg M := sg_t.trans hP
      have g1 := s_tasksIn10 hs hI.1.2.2.2.1 c
      have g0 : g_X10_in (pI y) (0 : Int32) (3 : Int32) (am_s P 174 0 (0 : Int32)) = some (pI 1, am_s P 174 0 (pI 0)) := min_t (b := 0) (c := 3) (by omega) (by omega) (by omega) (by omega)
      unfold g_X10_tasksIn
      rw [g0, am_b_some, if_neg ci1]
      exact (congrArg (fun z => am_b z _) g1).trans rfl
  · refine CS_no1 (k := 1) (v := 0) hI ?_ ?_ (by omega)
    · unfold g_L_tasksIn g_X9_tasksIn
      simp (disch := (first | omega | exact (iv_rng _ _ _).1 | exact (iv_rng _ _ _).2)) only [pi_lit, pi_nat, pi_add, pi_sub, pi_mul, pi_neg, pi_le, pi_lt, pi_eq, pi_cn, pi_ci, pi_g, am_b_some, iv_s, iv_ls, lg_s, lg_ls, if_true, if_false, Int.reduceEq, Int.reduceLT, Int.reduceLE, Int.reduceToNat]
      by_cases e : y < 0
      · rw [if_pos e]; rfl
      · rw [if_neg e, if_neg (by omega)]; rfl
    · have g0 : g_X10_in (pI y) (0 : Int32) (3 : Int32) (am_s M 174 0 (0 : Int32)) = some (pI 0, am_s M 174 0 (pI 0)) := min_f (b := 0) (c := 3) (by omega) (by omega) (by omega) (by omega) (by omega) (by omega) c
      unfold g_X10_tasksIn
      rw [g0, am_b_some, if_pos ci0]
      rfl
def bz (f : Nat → Int) : Nat → Nat
  | 0 => 0
  | k + 1 => if k = 0 then 0 else if f k ≤ f (bz f k) then bz f k else k
theorem bz_lt (f : Nat → Int) (k : Nat) : bz f k ≤ k := by
  induction k with
  | zero => exact Nat.le_refl _
  | succ k ih =>
    rw [bz]
    split
    · omega
    · split <;> omega
theorem cs_busiest {M : am_M} (hI : INV M) : ∃ (v : Int32) (P Q : am_M), g_X9_busiestCell M = some (v, P) ∧ g_X10_busiestCell P = some (v, Q) ∧ INV Q := by
  have hv : ∀ k : Nat, k < 40 → iv M (1 + 6) k = sg M (48 + k) := fun k hk => hI.2.1.2.2.1 k hk
  obtain ⟨s, g1, e1⟩ := lo_for (fun m (s : Int32 × Int32 × am_M) => g_X9_busiestCell_L4 m s.1 s.2.1 s.2.2) (fun q s => 1 ≤ q ∧ s = (pI (bz (fun c => sg M (48 + c)) q : Nat), pI (q : Nat), M)) (fun s => s = (pI (bz (fun c => sg M (48 + c)) 40 : Nat), M)) 1 40 (pI 0, pI 1, M) ⟨Nat.le_refl _, rfl⟩ (by omega) (by unfold am_fu; omega) (by
    rintro m q s hq ⟨hq1, rfl⟩
    left
    have hb := bz_lt (fun c => sg M (48 + c)) q
    have ra := sg_rng M (48 + q)
    have rb := sg_rng M (48 + bz (fun c => sg M (48 + c)) q)
    refine ⟨_, ?_, by omega, rfl⟩
    dsimp only
    rw [g_X9_busiestCell_L4, bz]
    simp (disch := (first | omega | exact (iv_rng _ _ _).1 | exact (iv_rng _ _ _).2)) only [pi_lit, pi_nat, pi_add, pi_sub, pi_mul, pi_neg, pi_le, pi_lt, pi_eq, pi_cn, pi_ci, pi_g, am_b_some, iv_s, iv_ls, lg_s, lg_ls, if_true, if_false, Int.reduceEq, Int.reduceLT, Int.reduceLE, Int.reduceToNat, s_at1, Int.toNat_natCast]
    rw [if_neg (by omega), hv q hq, hv _ (by omega), if_neg (show ¬ q = 0 by omega)]
    by_cases h : sg M (48 + q) ≤ sg M (48 + bz (fun c => sg M (48 + c)) q)
    · rw [if_pos h, if_pos h]; rfl
    · rw [if_neg h, if_neg h]; rfl) (by
    rintro m s ⟨hq1, rfl⟩
    refine ⟨_, ?_, rfl⟩
    dsimp only
    rw [g_X9_busiestCell_L4]
    simp (disch := (first | omega | exact (iv_rng _ _ _).1 | exact (iv_rng _ _ _).2)) only [pi_lit, pi_nat, pi_add, pi_sub, pi_mul, pi_neg, pi_le, pi_lt, pi_eq, pi_cn, pi_ci, pi_g, am_b_some, iv_s, iv_ls, lg_s, lg_ls, if_true, if_false, Int.reduceEq, Int.reduceLT, Int.reduceLE, Int.reduceToNat]
    rw [if_pos (by omega)])
  have hs : sg (am_s M 174 0 (pI 0)) = sg M := sg_t
  obtain ⟨s2, g2, e2⟩ := lo_for (fun m (s : Int32 × Int32 × am_M) => g_X10_busiestCell_L9 m s.1 s.2.1 s.2.2) (fun q s => 1 ≤ q ∧ s = (pI (bz (fun c => sg M (48 + c)) q : Nat), pI (q : Nat), am_s M 174 0 (pI 0))) (fun s => s = (pI (bz (fun c => sg M (48 + c)) 40 : Nat), am_s M 174 0 (pI 0))) 1 40 (pI 0, pI 1, am_s M 174 0 (pI 0)) ⟨Nat.le_refl _, rfl⟩ (by omega) (by unfold am_fu; omega) (by
    rintro m q s hq ⟨hq1, rfl⟩
    left
    have hb := bz_lt (fun c => sg M (48 + c)) q
    have ra := sg_rng M (48 + q)
    have rb := sg_rng M (48 + bz (fun c => sg M (48 + c)) q)
    have h175 : ∀ k, iv (am_s M 174 0 (pI 0)) 175 k = sg M k := fun k => congrFun hs k
    refine ⟨_, ?_, by omega, rfl⟩
    dsimp only
    rw [g_X10_busiestCell_L9, bz]
    simp (disch := (first | omega | exact (iv_rng _ _ _).1 | exact (iv_rng _ _ _).2)) only [pi_lit, pi_nat, pi_add, pi_sub, pi_mul, pi_neg, pi_le, pi_lt, pi_eq, pi_cn, pi_ci, pi_g, am_b_some, iv_s, iv_ls, lg_s, lg_ls, if_true, if_false, Int.reduceEq, Int.reduceLT, Int.reduceLE, Int.reduceToNat]
    rw [if_neg (by omega), if_neg (show ¬ q = 0 by omega)]
    simp only [if_neg (show ¬ (175 = 174 ∧ (48 + (q : Int)).toNat = 0) by omega), if_neg (show ¬ (175 = 174 ∧ (48 + (bz (fun c => sg M (48 + c)) q : Int)).toNat = 0) by omega)]
    rw [show (48 + (q : Int)).toNat = 48 + q by omega, show (48 + (bz (fun c => sg M (48 + c)) q : Int)).toNat = 48 + bz (fun c => sg M (48 + c)) q by omega]
    by_cases h : sg M (48 + q) ≤ sg M (48 + bz (fun c => sg M (48 + c)) q)
    · rw [if_pos h, if_pos (show pI (iv M 175 (48 + q)) ≤ pI (iv M 175 (48 + bz (fun c => sg M (48 + c)) q)) by rw [pi_le (iv_rng _ _ _).1 (iv_rng _ _ _).2 (iv_rng _ _ _).1 (iv_rng _ _ _).2]; exact h)]; rfl
    · rw [if_neg h, if_neg (show ¬ (pI (iv M 175 (48 + q)) ≤ pI (iv M 175 (48 + bz (fun c => sg M (48 + c)) q))) by rw [pi_le (iv_rng _ _ _).1 (iv_rng _ _ _).2 (iv_rng _ _ _).1 (iv_rng _ _ _).2]; exact h)]; rfl) (by
    rintro m s ⟨hq1, rfl⟩
    refine ⟨_, ?_, rfl⟩
    dsimp only
    rw [g_X10_busiestCell_L9]
    simp (disch := (first | omega | exact (iv_rng _ _ _).1 | exact (iv_rng _ _ _).2)) only [pi_lit, pi_nat, pi_add, pi_sub, pi_mul, pi_neg, pi_le, pi_lt, pi_eq, pi_cn, pi_ci, pi_g, am_b_some, iv_s, iv_ls, lg_s, lg_ls, if_true, if_false, Int.reduceEq, Int.reduceLT, Int.reduceLE, Int.reduceToNat]
    rw [if_pos (by omega)])
  refine ⟨pI (bz (fun c => sg M (48 + c)) 40 : Nat), M, am_s M 174 0 (pI 0), ?_, ?_, INV_thrown hI _⟩
  · unfold g_X9_busiestCell
    dsimp only at g1
    rw [show (0 : Int32) = pI 0 from rfl, show (1 : Int32) = pI 1 from rfl, g1, e1, am_b_some]
  · unfold g_X10_busiestCell
    dsimp only at g2
    rw [show (0 : Int32) = pI 0 from rfl, show (1 : Int32) = pI 1 from rfl, g2, e2, am_b_some]
end QR
