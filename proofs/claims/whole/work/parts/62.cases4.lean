/-! the cases robot, action -/
section QV
theorem fp_lift_eq {σ : Nat → Int} {r : Int} (hw : wr σ r) (h : 0 < ro σ r 3) : fp σ r 0 = 4 - ac σ r 0 := by
  have h1 := hw.2.2.2.2.1 h
  unfold fp fa fs fw
  dsimp only
  rw [if_pos h, if_pos (by omega)]
  rfl
theorem mof {σ : Nat → Int} {P : am_M} (hs : sg P = σ) {r w : Nat} (hr : r < 5) (hw : w < 42) : g_X10_of (pI r) (pI w) P = some (pI (ro σ r w), P) := by
  rw [s_of P (by omega) (by omega), hs]
theorem cs_robot {M : am_M} (hI : INV M) (a b : Int32) : CS (g_L_robot a b M) (g_X10_robot a b) := by
  obtain ⟨x, rfl, hx1, hx2⟩ := pi_cast a
  obtain ⟨y, rfl, hy1, hy2⟩ := pi_cast b
  have hO := hI.1
  have h6 := hO.2.2.1
  have g0 := s_demandRobot (x := x) (M := M) hx1 hx2
  rw [hI.2.1.2.1.1] at g0
  by_cases c : 0 ≤ x ∧ x < sg M 6
  · obtain ⟨r, rfl⟩ : ∃ r : Nat, x = r := ⟨x.toNat, by omega⟩
    rw [if_pos c] at g0
    have hr5 : r < 5 := by omega
    have hRF := hO.2.2.2.2.2.1 r c.2
    have hw := hRF.1
    have g1 := s_robotOf (w := 1) (r := r) M hr5
    rw [show 1 + 15 + 5 * r = 16 + 5 * r by omega] at g1
    have g2 := s_place0 hI.2.1 hO c.2
    have c4 : am_g M 1 4 = pI (sg M 0) := by rw [pi_g, hI.2.1.2.1.2.2]
    obtain ⟨b1, b2, b3, b4, b5⟩ := hI.2.1.2.2.2.1 r c.2
    rw [show 1 + 15 + 5 * r = 16 + 5 * r by omega] at b2 b3 b4
    rw [show 1 + 16 + 5 * r = 17 + 5 * r by omega] at b1
    have hcell := ro_cell hw
    have hlift := hw.2.2.2.2.1
    have h30 := hw.2.2.2.1
    have hac0 : 0 < ro (sg M) r 3 → ac (sg M) r 0 < 7 := fun q => (hw.2.1 0 (hlift q).1).2
    by_cases y0 : y = 0
    · subst y0
      refine CS_read (v := pI (if 0 < ro (sg M) r 3 then -1 else ro (sg M) r 0)) hI ?_ ?_
      · unfold g_L_robot g_X9_robot
        have ev : (if pI (fp (sg M) r 0) < (-1 : Int32) then (-1 : Int32) else pI (fp (sg M) r 0)) = pI (if 0 < ro (sg M) r 3 then -1 else ro (sg M) r 0) := by
          have hrg := fp_rng hw 0
          by_cases q : 0 < ro (sg M) r 3
          · have q2 := hlift q
            have q3 := fp_lift_eq hw q
            have q4 := hac0 q
            rw [if_pos q]
            by_cases q5 : fp (sg M) r 0 = -1
            · rw [q5]; rfl
            · rw [show fp (sg M) r 0 = -2 by omega]; rfl
          · rw [if_neg q, fp_zero (by omega)]
            rw [if_neg (show ¬ (pI (ro (sg M) r 0) < (-1 : Int32)) by show ¬ (pI _ < pI (-1)); rw [pi_lt (by omega) (by omega) (by omega) (by omega)]; omega)]
        rw [g0, am_bx_inl, g1, am_b_some, show 16 + 5 * r + 1 = 17 + 5 * r by omega, c4, g2, am_b_some, if_pos cq0, ev]
        rfl
      · intro P hP
        have hs : sg (am_s P 174 0 (pI 0)) = sg M := sg_t.trans hP
        unfold g_X10_robot
        rw [show am_s P 174 0 (0 : Int32) = am_s P 174 0 (pI 0) from rfl, mrob_t hs hO c, am_b_some, if_neg ci1, if_pos cq0]
        by_cases q : 0 < ro (sg M) r 3
        · rw [mlift_t hs hr5 q, am_b_some, if_neg ci1, if_pos q]
          rfl
        · have g3 := mof hs (r := r) (w := 0) hr5 (by omega)
          rw [mlift_f hs hr5 q, am_b_some, if_pos ci0, if_neg q]
          exact (congrArg (fun z => am_b z _) g3).trans rfl
    · skip
      by_cases y1 : y = 1
      · subst y1
        refine CS_read (v := pI (ro (sg M) r 1)) hI ?_ ?_
        · unfold g_L_robot g_X9_robot
          rw [g0, am_bx_inl, g1, am_b_some, show 16 + 5 * r + 1 = 17 + 5 * r by omega, c4, g2, am_b_some, if_neg (by decide), if_pos cq1, pi_g, b2]
          rfl
        · intro P hP
          have hs : sg (am_s P 174 0 (pI 0)) = sg M := sg_t.trans hP
          unfold g_X10_robot
          have g3 := mof hs (r := r) (w := 1) hr5 (by omega)
          rw [show am_s P 174 0 (0 : Int32) = am_s P 174 0 (pI 0) from rfl, mrob_t hs hO c, am_b_some, if_neg ci1, if_neg (by decide), if_pos cq1]
          exact (congrArg (fun z => am_b z _) g3).trans rfl
      · skip
        by_cases y2 : y = 2
        · subst y2
          refine CS_read (v := pI (pk (sg M) r (ro (sg M) r 2).toNat - ro (sg M) r 3)) hI ?_ ?_
          · unfold g_L_robot g_X9_robot
            rw [g0, am_bx_inl, g1, am_b_some, show 16 + 5 * r + 1 = 17 + 5 * r by omega, c4, g2, am_b_some, if_neg (by decide), if_neg (by decide), if_pos cq2, c4, s_ticksLeft b1 hw hO.1.2, am_b_some]
            rfl
          · intro P hP
            have hs : sg (am_s P 174 0 (pI 0)) = sg M := sg_t.trans hP
            unfold g_X10_robot
            rw [show am_s P 174 0 (0 : Int32) = am_s P 174 0 (pI 0) from rfl, mrob_t hs hO c, am_b_some, if_neg ci1, if_neg (by decide), if_neg (by decide), if_pos cq2, s_mticksLeft hs hw hr5, am_b_some]
        · skip
          by_cases y3 : y = 3
          · subst y3
            refine CS_read (v := pI (csm (sg M) r (if 0 < ro (sg M) r 3 then 1 else 0) (ro (sg M) r 2).toNat)) hI ?_ ?_
            · unfold g_L_robot g_X9_robot
              rw [g0, am_bx_inl, g1, am_b_some, show 16 + 5 * r + 1 = 17 + 5 * r by omega, c4, g2, am_b_some, if_neg (by decide), if_neg (by decide), if_neg (by decide), if_pos cq3, c4, s_costLeft b1 hw hO.1.2, am_b_some]
              rfl
            · intro P hP
              have hs : sg (am_s P 174 0 (pI 0)) = sg M := sg_t.trans hP
              unfold g_X10_robot
              rw [show am_s P 174 0 (0 : Int32) = am_s P 174 0 (pI 0) from rfl, mrob_t hs hO c, am_b_some, if_neg ci1, if_neg (by decide), if_neg (by decide), if_neg (by decide), if_pos cq3, s_mcostLeft hs hw hr5, am_b_some]
          · skip
            by_cases y4 : y = 4
            · subst y4
              refine CS_read (v := pI (ro (sg M) r 4)) hI ?_ ?_
              · unfold g_L_robot g_X9_robot
                rw [g0, am_bx_inl, g1, am_b_some, show 16 + 5 * r + 1 = 17 + 5 * r by omega, c4, g2, am_b_some, if_neg (by decide), if_neg (by decide), if_neg (by decide), if_neg (by decide), if_pos cq4, pi_g, b3]
                rfl
              · intro P hP
                have hs : sg (am_s P 174 0 (pI 0)) = sg M := sg_t.trans hP
                unfold g_X10_robot
                have g3 := mof hs (r := r) (w := 4) hr5 (by omega)
                rw [show am_s P 174 0 (0 : Int32) = am_s P 174 0 (pI 0) from rfl, mrob_t hs hO c, am_b_some, if_neg ci1, if_neg (by decide), if_neg (by decide), if_neg (by decide), if_neg (by decide), if_pos cq4]
                exact (congrArg (fun z => am_b z _) g3).trans rfl
            · skip
              by_cases y5 : y = 5
              · subst y5
                refine CS_read (v := pI (if 0 < ro (sg M) r 3 then ac (sg M) r 0 - 5 else -1)) hI ?_ ?_
                · unfold g_L_robot g_X9_robot
                  rw [g0, am_bx_inl, g1, am_b_some, show 16 + 5 * r + 1 = 17 + 5 * r by omega, c4, g2, am_b_some, if_neg (by decide), if_neg (by decide), if_neg (by decide), if_neg (by decide), if_neg (by decide), if_pos cq5]
                  by_cases q : 0 < ro (sg M) r 3
                  · have q2 := hlift q
                    have q3 := fp_lift_eq hw q
                    have q4 := hac0 q
                    rw [if_pos q, if_neg (show ¬ ((0 : Int32) ≤ pI (fp (sg M) r 0)) by show ¬ (pI 0 ≤ _); rw [pi_le (by omega) (by omega) (by omega) (by omega)]; omega), show (-1 : Int32) - pI (fp (sg M) r 0) = pI (ac (sg M) r 0 - 5) from by rw [show (-1 : Int32) = pI (-1) from rfl, pi_sub, q3, show (-1 : Int) - (4 - ac (sg M) r 0) = ac (sg M) r 0 - 5 by omega]]
                    rfl
                  · rw [if_neg q, fp_zero (by omega), if_pos (show (0 : Int32) ≤ pI (ro (sg M) r 0) by show pI 0 ≤ _; rw [pi_le (by omega) (by omega) (by omega) (by omega)]; omega)]
                    rfl
                · intro P hP
                  have hs : sg (am_s P 174 0 (pI 0)) = sg M := sg_t.trans hP
                  unfold g_X10_robot
                  rw [show am_s P 174 0 (0 : Int32) = am_s P 174 0 (pI 0) from rfl, mrob_t hs hO c, am_b_some, if_neg ci1, if_neg (by decide), if_neg (by decide), if_neg (by decide), if_neg (by decide), if_neg (by decide), if_pos cq5]
                  by_cases q : 0 < ro (sg M) r 3
                  · have g3 : g_X10_act (pI r) (0 : Int32) (am_s P 174 0 (pI 0)) = some (pI (ac (sg M) r 0), am_s P 174 0 (pI 0)) := by
                      rw [show (0 : Int32) = pI 0 from rfl, s_act _ (by omega) (by omega), hs]
                    rw [mlift_t hs hr5 q, am_b_some, if_neg ci1, if_pos q, g3, am_b_some, show (5 : Int32) = pI 5 from rfl, pi_sub]
                  · rw [mlift_f hs hr5 q, am_b_some, if_pos ci0, if_neg q]
                    rfl
              · skip
                have hne : ∀ k : Int, k ≠ y → -100 ≤ k → k < 100 → ¬ (pI y = pI k) := fun k h1 h2 h3 => by
                  rw [pi_eq hy1 hy2 (by omega) (by omega)]
                  exact fun q => h1 q.symm
                refine CS_no1 (k := 2) (v := 0) hI ?_ ?_ (by omega)
                · unfold g_L_robot g_X9_robot
                  rw [g0, am_bx_inl, g1, am_b_some, show 16 + 5 * r + 1 = 17 + 5 * r by omega, c4, g2, am_b_some, if_neg (show ¬ (pI y = (0 : Int32)) from hne 0 (by omega) (by omega) (by omega)), if_neg (show ¬ (pI y = (1 : Int32)) from hne 1 (by omega) (by omega) (by omega)), if_neg (show ¬ (pI y = (2 : Int32)) from hne 2 (by omega) (by omega) (by omega)), if_neg (show ¬ (pI y = (3 : Int32)) from hne 3 (by omega) (by omega) (by omega)), if_neg (show ¬ (pI y = (4 : Int32)) from hne 4 (by omega) (by omega) (by omega)), if_neg (show ¬ (pI y = (5 : Int32)) from hne 5 (by omega) (by omega) (by omega))]
                  rfl
                · unfold g_X10_robot
                  rw [show am_s M 174 0 (0 : Int32) = am_s M 174 0 (pI 0) from rfl, mrob_t (σ := sg M) sg_t hO c, am_b_some, if_neg ci1, if_neg (show ¬ (pI y = (0 : Int32)) from hne 0 (by omega) (by omega) (by omega)), if_neg (show ¬ (pI y = (1 : Int32)) from hne 1 (by omega) (by omega) (by omega)), if_neg (show ¬ (pI y = (2 : Int32)) from hne 2 (by omega) (by omega) (by omega)), if_neg (show ¬ (pI y = (3 : Int32)) from hne 3 (by omega) (by omega) (by omega)), if_neg (show ¬ (pI y = (4 : Int32)) from hne 4 (by omega) (by omega) (by omega)), if_neg (show ¬ (pI y = (5 : Int32)) from hne 5 (by omega) (by omega) (by omega))]
                  rfl
  · rw [if_neg c] at g0
    refine CS_no1 (k := 1) (v := 0) hI ?_ ?_ (by omega)
    · unfold g_L_robot g_X9_robot
      rw [g0, am_bx_inr]
      rfl
    · unfold g_X10_robot
      rw [mrob_f (σ := sg M) sg_t hO hx1 hx2 c, am_b_some, if_pos ci0]
      rfl
theorem cs_action {M : am_M} (hI : INV M) (a b : Int32) : CS (g_L_action a b M) (g_X10_action a b) := by
  obtain ⟨x, rfl, hx1, hx2⟩ := pi_cast a
  obtain ⟨y, rfl, hy1, hy2⟩ := pi_cast b
  have hO := hI.1
  have h6 := hO.2.2.1
  have g0 := s_demandRobot (x := x) (M := M) hx1 hx2
  rw [hI.2.1.2.1.1] at g0
  by_cases c : 0 ≤ x ∧ x < sg M 6
  · obtain ⟨r, rfl⟩ : ∃ r : Nat, x = r := ⟨x.toNat, by omega⟩
    rw [if_pos c] at g0
    have hr5 : r < 5 := by omega
    have hRF := hO.2.2.2.2.2.1 r c.2
    have hw := hRF.1
    have hw2 := hw.1
    have g1 := s_robotOf (w := 1) (r := r) M hr5
    rw [show 1 + 15 + 5 * r = 16 + 5 * r by omega] at g1
    have c4 : am_g M 1 4 = pI (sg M 0) := by rw [pi_g, hI.2.1.2.1.2.2]
    have b1 := (hI.2.1.2.2.2.1 r c.2).1
    rw [show 1 + 16 + 5 * r = 17 + 5 * r by omega] at b1
    have g2 := s_restAction b1 hw hO.1.2 hy1 hy2
    have g3 : ∀ P, sg P = sg M → g_X10_of (pI r) (2 : Int32) P = some (pI (ro (sg M) r 2), P) := fun P hP => mof hP (r := r) (w := 2) hr5 (by omega)
    have c5 : pI (ro (sg M) r 2) - (1 : Int32) = pI (ro (sg M) r 2 - 1) := by rw [show (1 : Int32) = pI 1 from rfl, pi_sub]
    by_cases d : 0 ≤ y ∧ y < ro (sg M) r 2
    · rw [if_pos d] at g2
      have hac := hw.2.1 y.toNat (by omega)
      rw [show ((y.toNat : Nat) : Int) = y by omega] at hac
      refine CS_read (v := pI (ac (sg M) r y)) hI ?_ ?_
      · unfold g_L_action g_X9_action
        rw [g0, am_bx_inl, g1, am_b_some, show 16 + 5 * r + 1 = 17 + 5 * r by omega, c4, g2, am_b_some, if_pos (show (0 : Int32) ≤ pI (ac (sg M) r y) by show pI 0 ≤ _; rw [pi_le (by omega) (by omega) (by omega) (by omega)]; omega)]
        rfl
      · intro P hP
        have hs : sg (am_s P 174 0 (pI 0)) = sg M := sg_t.trans hP
        have g4 : g_X10_in (pI y) (0 : Int32) (pI (ro (sg M) r 2 - 1)) (am_s P 174 0 (pI 0)) = some (pI 1, am_s P 174 0 (pI 0)) := min_t (b := 0) (by omega) (by omega) (by omega) (by omega)
        unfold g_X10_action
        rw [show am_s P 174 0 (0 : Int32) = am_s P 174 0 (pI 0) from rfl, mrob_t hs hO c, am_b_some, if_neg ci1, g3 _ hs, am_b_some, c5, g4, am_b_some, if_neg ci1, s_act _ (by omega) (by omega), am_b_some, hs]
    · rw [if_neg d] at g2
      refine CS_no1 (k := 2) (v := 0) hI ?_ ?_ (by omega)
      · unfold g_L_action g_X9_action
        rw [g0, am_bx_inl, g1, am_b_some, show 16 + 5 * r + 1 = 17 + 5 * r by omega, c4, g2, am_b_some, if_neg (show ¬ ((0 : Int32) ≤ pI (-1)) by decide)]
        rfl
      · have g4 : g_X10_in (pI y) (0 : Int32) (pI (ro (sg M) r 2 - 1)) (am_s M 174 0 (pI 0)) = some (pI 0, am_s M 174 0 (pI 0)) := min_f (b := 0) (by omega) (by omega) (by omega) (by omega) (by omega) (by omega) (by omega)
        unfold g_X10_action
        rw [show am_s M 174 0 (0 : Int32) = am_s M 174 0 (pI 0) from rfl, mrob_t (σ := sg M) sg_t hO c, am_b_some, if_neg ci1, g3 _ sg_t, am_b_some, c5, g4, am_b_some, if_pos ci0]
        rfl
  · rw [if_neg c] at g0
    refine CS_no1 (k := 1) (v := 0) hI ?_ ?_ (by omega)
    · unfold g_L_action g_X9_action
      rw [g0, am_bx_inr]
      rfl
    · unfold g_X10_action
      rw [mrob_f (σ := sg M) sg_t hO hx1 hx2 c, am_b_some, if_pos ci0]
      rfl
end QV
