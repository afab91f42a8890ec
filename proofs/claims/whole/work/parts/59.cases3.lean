/-! the cases task, cellAfter, robotAt, errorPosition, append -/
section QS
theorem s_demandTask {x : Int} {M : am_M} (h1 : -2147483648 ≤ x) (h2 : x < 2147483648) : g_X9_demandTask (pI x) M = some (if 0 ≤ x ∧ x < iv M 1 3 then .inl () else .inr 1, M) := by
  unfold g_X9_demandTask
  simp (disch := (first | omega | exact (iv_rng _ _ _).1 | exact (iv_rng _ _ _).2)) only [pi_lit, pi_nat, pi_add, pi_sub, pi_mul, pi_neg, pi_le, pi_lt, pi_eq, pi_cn, pi_ci, pi_g, am_b_some, iv_s, iv_ls, lg_s, lg_ls, if_true, if_false, Int.reduceEq, Int.reduceLT, Int.reduceLE, Int.reduceToNat]
  by_cases c1 : x < 0
  · rw [if_pos c1, if_neg (by omega)]
  · rw [if_neg c1]
    by_cases c2 : x < iv M 1 3
    · rw [if_pos c2, if_pos ⟨by omega, c2⟩]
    · rw [if_neg c2, if_neg (fun q => c2 q.2)]
theorem mtask_t {σ : Nat → Int} {x : Int} {M : am_M} (hs : sg M = σ) (hO : OK σ) (h : 0 ≤ x ∧ x < σ 7) : g_X10_isTask (pI x) M = some (pI 1, M) := by
  have h6 := hO.2.2.2.1
  rw [s_isTask M (by omega) (by omega) (by rw [hs]; omega) (by rw [hs]; omega), hs, if_pos (by omega)]
theorem mtask_f {σ : Nat → Int} {x : Int} {M : am_M} (hs : sg M = σ) (hO : OK σ) (h1 : -2147483648 ≤ x) (h2 : x < 2147483648) (h : ¬ (0 ≤ x ∧ x < σ 7)) : g_X10_isTask (pI x) M = some (pI 0, M) := by
  have h6 := hO.2.2.2.1
  rw [s_isTask M h1 h2 (by rw [hs]; omega) (by rw [hs]; omega), hs, if_neg (by omega)]
theorem s_item2 {σ : Nat → Int} {P : am_M} (hs : sg P = σ) {j w : Nat} (hj : j < 12) (hw : w < 9) : g_X10_item (pI j) (pI w) P = some (pI (it σ j w), P) := by
  rw [s_item P (by omega) (by omega), hs]
theorem cs_task {M : am_M} (hI : INV M) (a b : Int32) : CS (g_L_task a b M) (g_X10_task a b) := by
  obtain ⟨x, rfl, hx1, hx2⟩ := pi_cast a
  obtain ⟨y, rfl, hy1, hy2⟩ := pi_cast b
  have hO := hI.1
  have h7 := hO.2.2.2.1
  have g0 := s_demandTask (x := x) (M := M) hx1 hx2
  rw [hI.2.1.2.1.2.1] at g0
  by_cases c : 0 ≤ x ∧ x < sg M 7
  · obtain ⟨j, rfl⟩ : ∃ j : Nat, x = j := ⟨x.toNat, by omega⟩
    rw [if_pos c] at g0
    have g1 := s_taskOf (w := 1) (j := j) M (by omega)
    obtain ⟨⟨t0, t1, t2, t3⟩, t4, t5, t6, t7, t8⟩ := hI.2.1.2.2.2.2 j c.2
    by_cases y0 : y = 0
    · subst y0
      refine CS_read (v := pI (it (sg M) j 4)) hI ?_ ?_
      · unfold g_L_task g_X9_task
        rw [g0, am_bx_inl, g1, am_b_some, if_pos cq0, pi_g, t5]
        rfl
      · intro P hP
        have hs : sg (am_s P 174 0 (pI 0)) = sg M := sg_t.trans hP
        unfold g_X10_task
        have g2 := s_item2 hs (j := j) (w := 4) (by omega) (by omega)
        rw [show am_s P 174 0 (0 : Int32) = am_s P 174 0 (pI 0) from rfl, mtask_t hs hO c, am_b_some, if_neg ci1, if_pos cq0]
        exact (congrArg (fun z => am_b z _) g2).trans rfl
    · skip
      by_cases y1 : y = 1
      · subst y1
        refine CS_read (v := pI (if it (sg M) j 4 = 3 then it (sg M) j 5 else 0)) hI ?_ ?_
        · unfold g_L_task g_X9_task
          rw [g0, am_bx_inl, g1, am_b_some, if_neg (by decide), if_pos cq1, pi_g, t6]
          rfl
        · intro P hP
          have hs : sg (am_s P 174 0 (pI 0)) = sg M := sg_t.trans hP
          unfold g_X10_task
          have g2 := s_item2 hs (j := j) (w := 4) (by omega) (by omega)
          have g3 := s_item2 hs (j := j) (w := 5) (by omega) (by omega)
          have hr := (hO.2.2.2.2.2.2.1 j c.2).2.2.2.2.2.1
          rw [show am_s P 174 0 (0 : Int32) = am_s P 174 0 (pI 0) from rfl, mtask_t hs hO c, am_b_some, if_neg ci1, if_neg (by decide), if_pos cq1]
          refine (congrArg (fun z => am_b z _) g2).trans ?_
          rw [am_b_some]
          by_cases h3 : it (sg M) j 4 = 3
          · rw [if_pos h3, if_pos (show pI (it (sg M) j ((4 : Nat) : Int)) = (3 : Int32) by rw [show it (sg M) j ((4 : Nat) : Int) = 3 from h3]; rfl)]
            exact (congrArg (fun z => am_b z _) g3).trans rfl
          · rw [if_neg h3, if_neg (show ¬ (pI (it (sg M) j ((4 : Nat) : Int)) = (3 : Int32)) from fun q => h3 ((pi_eq (a := it (sg M) j 4) (b := 3) (by omega) (by omega) (by omega) (by omega)).mp q))]
            rfl
      · skip
        by_cases y2 : y = 2
        · subst y2
          refine CS_read (v := pI (it (sg M) j 6)) hI ?_ ?_
          · unfold g_L_task g_X9_task
            rw [g0, am_bx_inl, g1, am_b_some, if_neg (by decide), if_neg (by decide), if_pos cq2, pi_g, t7]
            rfl
          · intro P hP
            have hs : sg (am_s P 174 0 (pI 0)) = sg M := sg_t.trans hP
            unfold g_X10_task
            have g2 := s_item2 hs (j := j) (w := 6) (by omega) (by omega)
            rw [show am_s P 174 0 (0 : Int32) = am_s P 174 0 (pI 0) from rfl, mtask_t hs hO c, am_b_some, if_neg ci1, if_neg (by decide), if_neg (by decide), if_pos cq2]
            exact (congrArg (fun z => am_b z _) g2).trans rfl
        · skip
          by_cases y3 : y = 3
          · subst y3
            refine CS_read (v := pI (it (sg M) j 7)) hI ?_ ?_
            · unfold g_L_task g_X9_task
              rw [g0, am_bx_inl, g1, am_b_some, if_neg (by decide), if_neg (by decide), if_neg (by decide), if_pos cq3, pi_g, t8]
              rfl
            · intro P hP
              have hs : sg (am_s P 174 0 (pI 0)) = sg M := sg_t.trans hP
              unfold g_X10_task
              have g2 := s_item2 hs (j := j) (w := 7) (by omega) (by omega)
              rw [show am_s P 174 0 (0 : Int32) = am_s P 174 0 (pI 0) from rfl, mtask_t hs hO c, am_b_some, if_neg ci1, if_neg (by decide), if_neg (by decide), if_neg (by decide), if_pos cq3]
              exact (congrArg (fun z => am_b z _) g2).trans rfl
          · skip
            by_cases y4 : y = 4
            · subst y4
              refine CS_read (v := pI (it (sg M) j 0)) hI ?_ ?_
              · unfold g_L_task g_X9_task
                rw [g0, am_bx_inl, g1, am_b_some, if_neg (by decide), if_neg (by decide), if_neg (by decide), if_neg (by decide), if_pos cq4, pi_g, t0]
                rfl
              · intro P hP
                have hs : sg (am_s P 174 0 (pI 0)) = sg M := sg_t.trans hP
                unfold g_X10_task
                have g2 := s_item2 hs (j := j) (w := 0) (by omega) (by omega)
                rw [show am_s P 174 0 (0 : Int32) = am_s P 174 0 (pI 0) from rfl, mtask_t hs hO c, am_b_some, if_neg ci1, if_neg (by decide), if_neg (by decide), if_neg (by decide), if_neg (by decide), if_pos cq4]
                exact (congrArg (fun z => am_b z _) g2).trans rfl
            · skip
              by_cases y5 : y = 5
              · subst y5
                refine CS_read (v := pI (it (sg M) j 1)) hI ?_ ?_
                · unfold g_L_task g_X9_task
                  rw [g0, am_bx_inl, g1, am_b_some, if_neg (by decide), if_neg (by decide), if_neg (by decide), if_neg (by decide), if_neg (by decide), if_pos cq5, pi_g, t1]
                  rfl
                · intro P hP
                  have hs : sg (am_s P 174 0 (pI 0)) = sg M := sg_t.trans hP
                  unfold g_X10_task
                  have g2 := s_item2 hs (j := j) (w := 1) (by omega) (by omega)
                  rw [show am_s P 174 0 (0 : Int32) = am_s P 174 0 (pI 0) from rfl, mtask_t hs hO c, am_b_some, if_neg ci1, if_neg (by decide), if_neg (by decide), if_neg (by decide), if_neg (by decide), if_neg (by decide), if_pos cq5]
                  exact (congrArg (fun z => am_b z _) g2).trans rfl
              · skip
                by_cases y6 : y = 6
                · subst y6
                  refine CS_read (v := pI (it (sg M) j 2)) hI ?_ ?_
                  · unfold g_L_task g_X9_task
                    rw [g0, am_bx_inl, g1, am_b_some, if_neg (by decide), if_neg (by decide), if_neg (by decide), if_neg (by decide), if_neg (by decide), if_neg (by decide), if_pos cq6, pi_g, t2]
                    rfl
                  · intro P hP
                    have hs : sg (am_s P 174 0 (pI 0)) = sg M := sg_t.trans hP
                    unfold g_X10_task
                    have g2 := s_item2 hs (j := j) (w := 2) (by omega) (by omega)
                    rw [show am_s P 174 0 (0 : Int32) = am_s P 174 0 (pI 0) from rfl, mtask_t hs hO c, am_b_some, if_neg ci1, if_neg (by decide), if_neg (by decide), if_neg (by decide), if_neg (by decide), if_neg (by decide), if_neg (by decide), if_pos cq6]
                    exact (congrArg (fun z => am_b z _) g2).trans rfl
                · skip
                  by_cases y7 : y = 7
                  · subst y7
                    refine CS_read (v := pI (it (sg M) j 3)) hI ?_ ?_
                    · unfold g_L_task g_X9_task
                      rw [g0, am_bx_inl, g1, am_b_some, if_neg (by decide), if_neg (by decide), if_neg (by decide), if_neg (by decide), if_neg (by decide), if_neg (by decide), if_neg (by decide), if_pos cq7, pi_g, t3]
                      rfl
                    · intro P hP
                      have hs : sg (am_s P 174 0 (pI 0)) = sg M := sg_t.trans hP
                      unfold g_X10_task
                      have g2 := s_item2 hs (j := j) (w := 3) (by omega) (by omega)
                      rw [show am_s P 174 0 (0 : Int32) = am_s P 174 0 (pI 0) from rfl, mtask_t hs hO c, am_b_some, if_neg ci1, if_neg (by decide), if_neg (by decide), if_neg (by decide), if_neg (by decide), if_neg (by decide), if_neg (by decide), if_neg (by decide), if_pos cq7]
                      exact (congrArg (fun z => am_b z _) g2).trans rfl
                  · skip
                    have hne : ∀ k : Int, k ≠ y → -100 ≤ k → k < 100 → ¬ (pI y = pI k) := fun k h1 h2 h3 => by
                      rw [pi_eq hy1 hy2 (by omega) (by omega)]
                      exact fun q => h1 q.symm
                    refine CS_no1 (k := 2) (v := 0) hI ?_ ?_ (by omega)
                    · unfold g_L_task g_X9_task
                      rw [g0, am_bx_inl, g1, am_b_some, if_neg (show ¬ (pI y = (0 : Int32)) from hne 0 (by omega) (by omega) (by omega)), if_neg (show ¬ (pI y = (1 : Int32)) from hne 1 (by omega) (by omega) (by omega)), if_neg (show ¬ (pI y = (2 : Int32)) from hne 2 (by omega) (by omega) (by omega)), if_neg (show ¬ (pI y = (3 : Int32)) from hne 3 (by omega) (by omega) (by omega)), if_neg (show ¬ (pI y = (4 : Int32)) from hne 4 (by omega) (by omega) (by omega)), if_neg (show ¬ (pI y = (5 : Int32)) from hne 5 (by omega) (by omega) (by omega)), if_neg (show ¬ (pI y = (6 : Int32)) from hne 6 (by omega) (by omega) (by omega)), if_neg (show ¬ (pI y = (7 : Int32)) from hne 7 (by omega) (by omega) (by omega))]
                      rfl
                    · unfold g_X10_task
                      rw [show am_s M 174 0 (0 : Int32) = am_s M 174 0 (pI 0) from rfl, mtask_t (σ := sg M) sg_t hO c, am_b_some, if_neg ci1, if_neg (show ¬ (pI y = (0 : Int32)) from hne 0 (by omega) (by omega) (by omega)), if_neg (show ¬ (pI y = (1 : Int32)) from hne 1 (by omega) (by omega) (by omega)), if_neg (show ¬ (pI y = (2 : Int32)) from hne 2 (by omega) (by omega) (by omega)), if_neg (show ¬ (pI y = (3 : Int32)) from hne 3 (by omega) (by omega) (by omega)), if_neg (show ¬ (pI y = (4 : Int32)) from hne 4 (by omega) (by omega) (by omega)), if_neg (show ¬ (pI y = (5 : Int32)) from hne 5 (by omega) (by omega) (by omega)), if_neg (show ¬ (pI y = (6 : Int32)) from hne 6 (by omega) (by omega) (by omega)), if_neg (show ¬ (pI y = (7 : Int32)) from hne 7 (by omega) (by omega) (by omega))]
                      rfl
  · rw [if_neg c] at g0
    refine CS_no1 (k := 1) (v := 0) hI ?_ ?_ (by omega)
    · unfold g_L_task g_X9_task
      rw [g0, am_bx_inr]
      rfl
    · unfold g_X10_task
      rw [mtask_f (σ := sg M) sg_t hO hx1 hx2 c, am_b_some, if_pos ci0]
      rfl
theorem s_demandTicks {x l : Int} {M : am_M} (h1 : -2147483648 ≤ x) (h2 : x < 2147483648) (hl : 0 ≤ l ∧ l ≤ 1) : g_X9_demandTicks (pI x) (pI l) M = some (if l ≤ x ∧ x ≤ 30 then .inl () else .inr 2, M) := by
  unfold g_X9_demandTicks
  simp (disch := (first | omega | exact (iv_rng _ _ _).1 | exact (iv_rng _ _ _).2)) only [pi_lit, pi_nat, pi_add, pi_sub, pi_mul, pi_neg, pi_le, pi_lt, pi_eq, pi_cn, pi_ci, pi_g, am_b_some, iv_s, iv_ls, lg_s, lg_ls, if_true, if_false, Int.reduceEq, Int.reduceLT, Int.reduceLE, Int.reduceToNat]
  by_cases c1 : x < l
  · rw [if_pos c1, if_neg (by omega)]
  · rw [if_neg c1]
    by_cases c2 : x ≤ 30
    · rw [if_pos c2, if_pos ⟨by omega, c2⟩]
    · rw [if_neg c2, if_neg (fun q => c2 q.2)]
theorem s_placeW {σ : Nat → Int} {r t : Nat} {M : am_M} (hW : WD σ 1 M) (hO : OK σ) (hr : (r : Int) < σ 6) (ht : t ≤ 31) : g_X2_placeAt (17 + 5 * r) (pI (σ 0 + t)) M = some (pI (fp σ r t), M) := by
  have h := (hW.2.2.2.1 r hr).1
  rw [show 1 + 16 + 5 * r = 17 + 5 * r by omega] at h
  exact s_placeAt h (hO.2.2.2.2.2.1 r hr).1 hO.1.2 (by omega)
theorem cs_cellAfter {M : am_M} (hI : INV M) (a b : Int32) : CS (g_L_cellAfter a b M) (g_X10_cellAfter a b) := by
  obtain ⟨x, rfl, hx1, hx2⟩ := pi_cast a
  obtain ⟨y, rfl, hy1, hy2⟩ := pi_cast b
  have hO := hI.1
  have h6 := hO.2.2.1
  have g0 := s_demandRobot (x := x) (M := M) hx1 hx2
  rw [hI.2.1.2.1.1] at g0
  have gt : g_X9_demandTicks (pI y) (0 : Int32) M = some (if 0 ≤ y ∧ y ≤ 30 then .inl () else .inr 2, M) := s_demandTicks (l := 0) (M := M) hy1 hy2 (by omega)
  by_cases c : 0 ≤ x ∧ x < sg M 6
  · obtain ⟨r, rfl⟩ : ∃ r : Nat, x = r := ⟨x.toNat, by omega⟩
    rw [if_pos c] at g0
    by_cases d : 0 ≤ y ∧ y ≤ 30
    · obtain ⟨t, rfl⟩ : ∃ t : Nat, y = t := ⟨y.toNat, by omega⟩
      rw [if_pos d] at gt
      have hRF := hO.2.2.2.2.2.1 r c.2
      have hrg := fp_rng hRF.1 t
      obtain ⟨N, g3, f3, p3, _⟩ := s_foresees (r := r) (am_s (am_ls M 186 0 (pI (fp (sg M) r t)).toInt64) 174 0 (pI 0)) (by omega) (by rw [show sg (am_s (am_ls M 186 0 (pI (fp (sg M) r t)).toInt64) 174 0 (pI 0)) = sg M from sg_t]; exact hRF.1)
      have hs : sg (am_s (am_ls M 186 0 (pI (fp (sg M) r t)).toInt64) 174 0 (pI 0)) = sg M := sg_t
      rw [hs] at p3
      have hv : iv N 180 (31 * r + t) = fp (sg M) r t := by
        rw [p3, if_pos (by omega), show 31 * r + t - 31 * r = t by omega]
      refine CS_yes (O := M) (v := pI (fp (sg M) r t)) (Q := N) ?_ ?_ ?_ (fr_l f3 (by decide) 0) (INV_fr (INV_thrown (INV_out hI _ _) _) f3 (by decide))
      · unfold g_L_cellAfter g_X9_cellAfter
        have g1 := s_placeW hI.2.1 hO c.2 (t := t) (by omega)
        have c1 : am_g M 1 4 + pI t = pI (sg M 0 + t) := by rw [pi_g, hI.2.1.2.1.2.2, pi_add]
        rw [g0, am_bx_inl, gt, am_bx_inl, s_robotOf M (by omega), am_b_some, show 1 + 15 + 5 * r + 1 = 17 + 5 * r by omega, c1, g1, am_b_some]
        rfl
      · unfold g_X10_cellAfter
        have c1 : (31 : Int32) * pI r + pI t = pI (31 * (r : Int) + t) := by rw [show (31 : Int32) = pI 31 from rfl, pi_mul, pi_add]
        have g2 : g_X10_in (pI t) (0 : Int32) (30 : Int32) (am_s (am_ls M 186 0 (pI (fp (sg M) r t)).toInt64) 174 0 (pI 0)) = some (pI 1, am_s (am_ls M 186 0 (pI (fp (sg M) r t)).toInt64) 174 0 (pI 0)) := min_t (b := 0) (c := 30) (by omega) (by omega) (by omega) (by omega)
        rw [show am_s (am_ls M 186 0 (pI (fp (sg M) r t)).toInt64) 174 0 (0 : Int32) = am_s (am_ls M 186 0 (pI (fp (sg M) r t)).toInt64) 174 0 (pI 0) from rfl, mrob_t hs hO c, am_b_some, if_neg ci1, g2, am_b_some, if_neg ci1, g3, am_b_some, c1, pi_ci (by omega) (by omega) (by omega), pi_cn (by omega) (by omega), show (31 * (r : Int) + t).toNat = 31 * r + t by omega, pi_g, hv]
      · rw [fr_i f3 (by decide), thr_s (by omega) (by omega)]
    · rw [if_neg d] at gt
      refine CS_no1 (k := 2) (v := 0) hI ?_ ?_ (by omega)
      · unfold g_L_cellAfter g_X9_cellAfter
        rw [g0, am_bx_inl, gt, am_bx_inr]
        rfl
      · unfold g_X10_cellAfter
        have g2 : g_X10_in (pI y) (0 : Int32) (30 : Int32) (am_s M 174 0 (pI 0)) = some (pI 0, am_s M 174 0 (pI 0)) := min_f (b := 0) (c := 30) (by omega) (by omega) (by omega) (by omega) (by omega) (by omega) d
        rw [show am_s M 174 0 (0 : Int32) = am_s M 174 0 (pI 0) from rfl, mrob_t (σ := sg M) sg_t hO c, am_b_some, if_neg ci1, g2, am_b_some, if_pos ci0]
        rfl
  · rw [if_neg c] at g0
    refine CS_no1 (k := 1) (v := 0) hI ?_ ?_ (by omega)
    · unfold g_L_cellAfter g_X9_cellAfter
      rw [g0, am_bx_inr]
      rfl
    · unfold g_X10_cellAfter
      rw [mrob_f (σ := sg M) sg_t hO hx1 hx2 c, am_b_some, if_pos ci0]
      rfl
theorem cs_errorPosition {M : am_M} (hI : INV M) : CS (g_L_errorPosition M) g_X10_errorPosition := by
  obtain ⟨e1, e2⟩ := hI.2.2.2.2.2.2
  have hr := iv_rng M 174 8
  have c1 : ∀ P : am_M, iv P 174 8 = iv M 174 8 → am_g (am_s P 174 0 (0 : Int32)) 174 8 = pI (iv M 174 8) := fun P hP => by
    show (if 174 = 174 ∧ 8 = 0 then (0 : Int32) else P.1 174 8) = _
    rw [if_neg (by omega), ← hP]
    exact pi_g P 174 8
  by_cases c : iv M 174 8 = -1
  · refine CS_no1 (k := 1) (v := 0) hI ?_ ?_ (by omega)
    · unfold g_L_errorPosition g_X9_errorPosition
      rw [if_neg (show ¬ ((0 : Int32) ≤ am_g M 0 7) by rw [pi_g, e1, c]; decide)]
      rfl
    · unfold g_X10_errorPosition
      rw [if_pos (show am_g (am_s M 174 0 (0 : Int32)) 174 8 = (-1 : Int32) by rw [c1 M rfl, c]; rfl)]
      rfl
  · refine CS_yes (O := M) (v := pI (iv M 174 8)) (Q := am_s (am_ls M 186 0 (pI (iv M 174 8)).toInt64) 174 0 (pI 0)) ?_ ?_ (thr_s (by omega) (by omega)) rfl (INV_thrown (INV_out hI _ _) _)
    · unfold g_L_errorPosition g_X9_errorPosition
      rw [if_pos (show (0 : Int32) ≤ am_g M 0 7 by rw [pi_g, e1]; show pI 0 ≤ _; rw [pi_le (by omega) (by omega) (by omega) (by omega)]; omega), pi_g, e1]
      rfl
    · unfold g_X10_errorPosition
      rw [if_neg (show ¬ (am_g (am_s (am_ls M 186 0 (pI (iv M 174 8)).toInt64) 174 0 (0 : Int32)) 174 8 = (-1 : Int32)) by rw [c1 (am_ls M 186 0 (pI (iv M 174 8)).toInt64) rfl]; exact fun q => c ((pi_eq (a := iv M 174 8) (b := -1) (by omega) (by omega) (by omega) (by omega)).mp q)), c1 (am_ls M 186 0 (pI (iv M 174 8)).toInt64) rfl]
      rfl
theorem s_occupant {M : am_M} {σ : Nat → Int} (hW : WD σ 1 M) (hO : OK σ) {y : Int} {t : Nat} (hy : 0 ≤ y ∧ y < 40) (ht : t ≤ 31) : ∃ v : Int, g_X8_occupant 1 (pI y) (pI (σ 0 + t)) M = some (pI v, M) ∧ ((∃ r : Nat, v = r ∧ (r : Int) < σ 6 ∧ fp σ r t = y ∧ ∀ o : Nat, o < r → fp σ o t ≠ y) ∨ (v = -1 ∧ ∀ o : Nat, (o : Int) < σ 6 → fp σ o t ≠ y)) := by
  have h6 := hO.2.2.1
  obtain ⟨x, g1, hx⟩ := lo_for (fun m (s : Int32 × am_M) => g_X8_occupant_L2 1 (pI y) (pI (σ 0 + t)) m s.1 s.2) (fun q s => s = (pI (q : Nat), M) ∧ ∀ o : Nat, o < q → fp σ o t ≠ y) (fun x => (∃ r : Nat, x = ((26, pI r), M) ∧ (r : Int) < σ 6 ∧ fp σ r t = y ∧ ∀ o : Nat, o < r → fp σ o t ≠ y) ∨ ((∃ v, x = ((34, v), M)) ∧ ∀ o : Nat, (o : Int) < σ 6 → fp σ o t ≠ y)) 0 (σ 6).toNat (pI 0, M) ⟨rfl, fun o h => by omega⟩ (by omega) (by unfold am_fu; omega) (by
    rintro m q s hq ⟨rfl, hno⟩
    have g2 := s_robotOf (w := 1) (r := q) M (by omega)
    have g3 := s_placeW hW hO (r := q) (by omega) ht
    have hrg := fp_rng (hO.2.2.2.2.2.1 q (by omega)).1 t
    have e2 : iv M 1 2 = σ 6 := hW.2.1.1
    have hstep : g_X8_occupant_L2 1 (pI y) (pI (σ 0 + t)) (m + 1) (pI (q : Nat)) M = if fp σ q t = y then some ((26, pI (q : Nat)), M) else g_X8_occupant_L2 1 (pI y) (pI (σ 0 + t)) m (pI (q + 1 : Nat)) M := by
      rw [g_X8_occupant_L2, g2, am_b_some, show 1 + 15 + 5 * q + 1 = 17 + 5 * q by omega, g3, am_b_some]
      simp (disch := (first | omega | exact (iv_rng _ _ _).1 | exact (iv_rng _ _ _).2)) only [pi_lit, pi_nat, pi_add, pi_sub, pi_mul, pi_neg, pi_le, pi_lt, pi_eq, pi_cn, pi_ci, pi_g, am_b_some, iv_s, iv_ls, lg_s, lg_ls, if_true, if_false, Int.reduceEq, Int.reduceLT, Int.reduceLE, Int.reduceToNat, e2]
      rw [if_neg (by omega)]
      rfl
    dsimp only
    rw [hstep]
    by_cases h : fp σ q t = y
    · right
      rw [if_pos h]
      exact ⟨_, rfl, Or.inl ⟨q, rfl, by omega, h, hno⟩⟩
    · left
      rw [if_neg h]
      refine ⟨(pI (q + 1 : Nat), M), rfl, rfl, fun o ho => ?_⟩
      by_cases h2 : o = q
      · subst h2; exact h
      · exact hno o (by omega)) (by
    rintro m s ⟨rfl, hno⟩
    have e2 : iv M 1 2 = σ 6 := hW.2.1.1
    refine ⟨_, ?_, Or.inr ⟨⟨pI ((σ 6).toNat : Nat), rfl⟩, fun o ho => hno o (by omega)⟩⟩
    dsimp only
    rw [g_X8_occupant_L2]
    simp (disch := (first | omega | exact (iv_rng _ _ _).1 | exact (iv_rng _ _ _).2)) only [pi_lit, pi_nat, pi_add, pi_sub, pi_mul, pi_neg, pi_le, pi_lt, pi_eq, pi_cn, pi_ci, pi_g, am_b_some, iv_s, iv_ls, lg_s, lg_ls, if_true, if_false, Int.reduceEq, Int.reduceLT, Int.reduceLE, Int.reduceToNat, e2]
    rw [if_pos (by omega)])
  rcases hx with ⟨r, rfl, h1, h2, h3⟩ | ⟨⟨v, rfl⟩, h1⟩
  · refine ⟨r, ?_, Or.inl ⟨r, rfl, h1, h2, h3⟩⟩
    unfold g_X8_occupant
    exact (congrArg (fun z => am_b z _) g1).trans rfl
  · refine ⟨-1, ?_, Or.inr ⟨rfl, h1⟩⟩
    unfold g_X8_occupant
    exact (congrArg (fun z => am_b z _) g1).trans rfl
theorem s_robotAt10 {P : am_M} {σ : Nat → Int} (hs : sg P = σ) (hO : OK σ) {y : Int} {t : Nat} (hy : 0 ≤ y ∧ y < 40) (ht : t < 31) : ∃ (v : Int) (N : am_M), g_X10_robotAt (pI y) (pI t) P = some (pI v, N) ∧ fr [180, 181] (am_s P 174 0 (pI 0)) N ∧ ((∃ r : Nat, v = r ∧ (r : Int) < σ 6 ∧ fp σ r t = y ∧ ∀ o : Nat, o < r → fp σ o t ≠ y) ∨ (v = -1 ∧ ∀ o : Nat, (o : Int) < σ 6 → fp σ o t ≠ y)) := by
  have h6 := hO.2.2.1
  have hs0 : sg (am_s P 174 0 (pI 0)) = σ := sg_t.trans hs
  obtain ⟨N, g3, f3, p3⟩ := s_allForeseen (am_s P 174 0 (pI 0)) (by rw [hs0]; omega) (by rw [hs0]; omega) (by rw [hs0]; exact fun r hr => (hO.2.2.2.2.2.1 r hr).1)
  rw [hs0] at p3
  have e2 : iv N 175 6 = σ 6 := by rw [fr_i f3 (by decide)]; exact congrFun hs0 6
  obtain ⟨x, g1, hx⟩ := lo_for (fun m (s : Int32 × am_M) => g_X10_robotAt_L40 (pI y) (pI t) m s.1 s.2) (fun q s => s = (pI (q : Nat), N) ∧ ∀ o : Nat, o < q → fp σ o t ≠ y) (fun x => (∃ r : Nat, x = ((66, pI r), N) ∧ (r : Int) < σ 6 ∧ fp σ r t = y ∧ ∀ o : Nat, o < r → fp σ o t ≠ y) ∨ ((∃ v, x = ((74, v), N)) ∧ ∀ o : Nat, (o : Int) < σ 6 → fp σ o t ≠ y)) 0 (σ 6).toNat (pI 0, N) ⟨rfl, fun o h => by omega⟩ (by omega) (by unfold am_fu; omega) (by
    rintro m q s hq ⟨rfl, hno⟩
    have hrg := fp_rng (hO.2.2.2.2.2.1 q (by omega)).1 t
    have hv := (p3 q t (by omega) ht).1
    have hstep : g_X10_robotAt_L40 (pI y) (pI t) (m + 1) (pI (q : Nat)) N = if fp σ q t = y then some ((66, pI (q : Nat)), N) else g_X10_robotAt_L40 (pI y) (pI t) m (pI (q + 1 : Nat)) N := by
      rw [g_X10_robotAt_L40]
      simp (disch := (first | omega | exact (iv_rng _ _ _).1 | exact (iv_rng _ _ _).2)) only [pi_lit, pi_nat, pi_add, pi_sub, pi_mul, pi_neg, pi_le, pi_lt, pi_eq, pi_cn, pi_ci, pi_g, am_b_some, iv_s, iv_ls, lg_s, lg_ls, if_true, if_false, Int.reduceEq, Int.reduceLT, Int.reduceLE, Int.reduceToNat, e2]
      rw [if_neg (by omega), show (31 * (q : Int) + t).toNat = 31 * q + t by omega, hv]
      rfl
    dsimp only
    rw [hstep]
    by_cases h : fp σ q t = y
    · right
      rw [if_pos h]
      exact ⟨_, rfl, Or.inl ⟨q, rfl, by omega, h, hno⟩⟩
    · left
      rw [if_neg h]
      refine ⟨(pI (q + 1 : Nat), N), rfl, rfl, fun o ho => ?_⟩
      by_cases h2 : o = q
      · subst h2; exact h
      · exact hno o (by omega)) (by
    rintro m s ⟨rfl, hno⟩
    refine ⟨_, ?_, Or.inr ⟨⟨pI ((σ 6).toNat : Nat), rfl⟩, fun o ho => hno o (by omega)⟩⟩
    dsimp only
    rw [g_X10_robotAt_L40]
    simp (disch := (first | omega | exact (iv_rng _ _ _).1 | exact (iv_rng _ _ _).2)) only [pi_lit, pi_nat, pi_add, pi_sub, pi_mul, pi_neg, pi_le, pi_lt, pi_eq, pi_cn, pi_ci, pi_g, am_b_some, iv_s, iv_ls, lg_s, lg_ls, if_true, if_false, Int.reduceEq, Int.reduceLT, Int.reduceLE, Int.reduceToNat, e2]
    rw [if_pos (by omega)])
  have hst : g_X10_robotAt (pI y) (pI t) P = am_b (g_X10_robotAt_L40 (pI y) (pI t) am_fu (0 : Int32) N) (fun x13 M14 => (if x13.1 = 66 then (some (x13.2, M14)) else (some ((-1 : Int32), M14)))) := by
    unfold g_X10_robotAt
    have g2 : g_X10_in (pI t) (0 : Int32) (30 : Int32) (am_s P 174 0 (pI 0)) = some (pI 1, am_s P 174 0 (pI 0)) := min_t (b := 0) (c := 30) (by omega) (by omega) (by omega) (by omega)
    rw [show am_s P 174 0 (0 : Int32) = am_s P 174 0 (pI 0) from rfl, mcell_t hy, am_b_some, if_neg ci1, g2, am_b_some, if_neg ci1, g3, am_b_some]
  rcases hx with ⟨r, rfl, h1, h2, h3⟩ | ⟨⟨v, rfl⟩, h1⟩
  · refine ⟨r, N, hst.trans ?_, f3, Or.inl ⟨r, rfl, h1, h2, h3⟩⟩
    exact (congrArg (fun z => am_b z _) g1).trans rfl
  · refine ⟨-1, N, hst.trans ?_, f3, Or.inr ⟨rfl, h1⟩⟩
    exact (congrArg (fun z => am_b z _) g1).trans rfl
theorem first_uniq {σ : Nat → Int} {y v w : Int} {t : Nat} (h1 : (∃ r : Nat, v = r ∧ (r : Int) < σ 6 ∧ fp σ r t = y ∧ ∀ o : Nat, o < r → fp σ o t ≠ y) ∨ (v = -1 ∧ ∀ o : Nat, (o : Int) < σ 6 → fp σ o t ≠ y)) (h2 : (∃ r : Nat, w = r ∧ (r : Int) < σ 6 ∧ fp σ r t = y ∧ ∀ o : Nat, o < r → fp σ o t ≠ y) ∨ (w = -1 ∧ ∀ o : Nat, (o : Int) < σ 6 → fp σ o t ≠ y)) : v = w := by
  rcases h1 with ⟨r, rfl, a1, a2, a3⟩ | ⟨rfl, a1⟩
  · rcases h2 with ⟨q, rfl, b1, b2, b3⟩ | ⟨rfl, b1⟩
    · by_cases c1 : r < q
      · exact absurd a2 (b3 r c1)
      · by_cases c2 : q < r
        · exact absurd b2 (a3 q c2)
        · omega
    · exact absurd a2 (b1 r a1)
  · rcases h2 with ⟨q, rfl, b1, b2, b3⟩ | ⟨rfl, b1⟩
    · exact absurd b2 (a1 q b1)
    · rfl
theorem cs_robotAt {M : am_M} (hI : INV M) (a b : Int32) : CS (g_L_robotAt a b M) (g_X10_robotAt a b) := by
  obtain ⟨x, rfl, hx1, hx2⟩ := pi_cast a
  obtain ⟨y, rfl, hy1, hy2⟩ := pi_cast b
  have hO := hI.1
  have g0 := s_demandCell (x := x) (M := M) hx1 hx2
  have gt : g_X9_demandTicks (pI y) (0 : Int32) M = some (if 0 ≤ y ∧ y ≤ 30 then .inl () else .inr 2, M) := s_demandTicks (l := 0) (M := M) hy1 hy2 (by omega)
  by_cases c : 0 ≤ x ∧ x < 40
  · rw [if_pos c] at g0
    by_cases d : 0 ≤ y ∧ y ≤ 30
    · obtain ⟨t, rfl⟩ : ∃ t : Nat, y = t := ⟨y.toNat, by omega⟩
      rw [if_pos d] at gt
      obtain ⟨v, g1, h1⟩ := s_occupant hI.2.1 hO c (t := t) (by omega)
      obtain ⟨w, N, g2, f2, h2⟩ := s_robotAt10 (P := am_ls M 186 0 (pI v).toInt64) (σ := sg M) rfl hO c (t := t) (by omega)
      obtain rfl := first_uniq h1 h2
      refine CS_yes (O := M) (v := pI v) (Q := N) ?_ g2 ?_ (fr_l f2 (by decide) 0) (INV_fr (INV_thrown (INV_out hI _ _) _) f2 (by decide))
      · unfold g_L_robotAt g_X9_robotAt
        have c1 : am_g M 1 4 + pI t = pI (sg M 0 + t) := by rw [pi_g, hI.2.1.2.1.2.2, pi_add]
        rw [g0, am_bx_inl, gt, am_bx_inl, c1, g1, am_b_some]
        rfl
      · rw [fr_i f2 (by decide), thr_s (by omega) (by omega)]
    · rw [if_neg d] at gt
      refine CS_no1 (k := 2) (v := 0) hI ?_ ?_ (by omega)
      · unfold g_L_robotAt g_X9_robotAt
        rw [g0, am_bx_inl, gt, am_bx_inr]
        rfl
      · unfold g_X10_robotAt
        have g2 : g_X10_in (pI y) (0 : Int32) (30 : Int32) (am_s M 174 0 (pI 0)) = some (pI 0, am_s M 174 0 (pI 0)) := min_f (b := 0) (c := 30) (by omega) (by omega) (by omega) (by omega) (by omega) (by omega) d
        rw [show am_s M 174 0 (0 : Int32) = am_s M 174 0 (pI 0) from rfl, mcell_t c, am_b_some, if_neg ci1, g2, am_b_some, if_pos ci0]
        rfl
  · rw [if_neg c] at g0
    refine CS_no1 (k := 1) (v := 0) hI ?_ ?_ (by omega)
    · unfold g_L_robotAt g_X9_robotAt
      rw [g0, am_bx_inr]
      rfl
    · unfold g_X10_robotAt
      rw [mcell_f hx1 hx2 c, am_b_some, if_pos ci0]
      rfl
end QS
