/-! the case planToCharger -/
section RK
theorem s_nearest {σ : Nat → Int} {r : Nat} {M : am_M} (hW : WD σ 1 M) (hO : OK σ) (hr : (r : Int) < σ 6) (h3 : ro σ r 3 = 0) : ∃ (b : Int) (t : Nat) (N : am_M), g_X3_nearestCharger (pI r) M = some (pI b, N) ∧ fr [158, 159, 160, 162, 163, 164, 165] M N ∧ NC σ r 40 b t := by
  have h6 := hO.2.2.1
  have h7 := hO.2.2.2.1
  obtain ⟨⟨u, N⟩, g2, f2, b, t, ex, hN⟩ := lo_for (fun m (s : Int32 × Int32 × Int32 × am_M) => g_X3_nearestCharger_L8 (pI r) m s.1 s.2.1 s.2.2.1 s.2.2.2) (fun q s => s.2.2.1 = pI (q : Nat) ∧ fr [158, 159, 160, 162, 163, 164, 165] M s.2.2.2 ∧ ∃ (b : Int) (t : Nat), s.1 = pI b ∧ (-1 ≤ b ∧ b < 40) ∧ (t ≤ 30 ∨ t = 1000000) ∧ (b = -1 → t = 1000000) ∧ s.2.1 = pI (t : Nat) ∧ NC σ r q b t) (fun s => fr [158, 159, 160, 162, 163, 164, 165] M s.2 ∧ ∃ (b : Int) (t : Nat), s.1 = pI b ∧ NC σ r 40 b t) 0 40 (pI (-1), pI 1000000, pI 0, M) ⟨rfl, fr_refl _ _, -1, 1000000, rfl, by omega, Or.inr rfl, fun _ => rfl, rfl, Or.inl ⟨rfl, fun c hc => by omega⟩⟩ (by omega) (by unfold am_fu; omega) (by
    rintro m q ⟨v1, v2, v3, N⟩ hq ⟨e3, hf, b, t, e1, hb, ht, hbt, e2, hNC⟩
    dsimp only at e1 e2 e3 hf
    subst e1 e2 e3
    left
    have hWN : WD σ 1 N := WD_fr hW h6.2 h7.2 hf (by intro z z1 z2 z3; simp at z3; omega)
    have hv : iv N 3 q = σ (8 + q) := hWN.1.2.2.1 q hq
    have hk := hO.2.2.2.2.1 q hq
    have c3 : pI (q : Nat) + (1 : Int32) = pI (q + 1 : Nat) := by rw [show (1 : Int32) = pI 1 from rfl, pi_add]; rfl
    have hat : g_X9_at (1 + 1 + 1) 40 (pI (q : Nat)) N = some (pI (σ (8 + q)), N) := by
      rw [s_at1 _ _ _ (by omega) (by omega) (by omega), Int.toNat_natCast, show (1 + 1 + 1 : Nat) = 3 from rfl, hv]
    have hstep : g_X3_nearestCharger_L8 (pI r) (m + 1) (pI b) (pI (t : Nat)) (pI (q : Nat)) N = g_X3_nearestCharger_J39 (g_X3_nearestCharger_L8 (pI r) m) (pI r) (pI b) (pI (t : Nat)) (pI (q : Nat)) (if σ (8 + q) = 2 then 1 else 0) N := by
      rw [g_X3_nearestCharger_L8, if_neg (show ¬ ((40 : Int32) ≤ pI (q : Nat)) by show ¬ (pI 40 ≤ _); rw [pi_le (by omega) (by omega) (by omega) (by omega)]; omega), hat, am_b_some]
      by_cases hk2 : σ (8 + q) = 2
      · rw [if_pos (show pI (σ (8 + q)) = (2 : Int32) by rw [hk2]; rfl), if_pos hk2]
      · rw [if_neg (show ¬ (pI (σ (8 + q)) = (2 : Int32)) from fun z => hk2 ((pi_eq (b := 2) (by omega) (by omega) (by omega) (by omega)).mp z)), if_neg hk2]
    dsimp only
    rw [hstep]
    unfold g_X3_nearestCharger_J39
    by_cases hk2 : σ (8 + q) = 2
    · rw [if_pos hk2, if_neg (by decide)]
      obtain ⟨O, fO, e2O, hO2⟩ := s_isPlannable hWN hO hr h3 (g := (q : Int)) (by omega)
      rcases hO2 with ⟨α, n, g3, q1, q2, q3⟩ | ⟨g3, q1⟩
      · have hfac := rtg_facts hO.2.1 (ro_cell (hO.2.2.2.2.2.1 r hr).1) q1
        have hpl : pl σ r q (lt α n) := ⟨α, n, q1, rfl, q2⟩
        have c4 : am_g O 158 3 = pI (lt α n : Nat) := by rw [pi_g, q3.1]
        rw [g3, am_b_some, if_neg ci1, c4, c3]
        by_cases hle : t ≤ lt α n
        · rw [if_pos (show pI (t : Nat) ≤ pI (lt α n : Nat) by rw [pi_le (by omega) (by omega) (by omega) (by omega)]; omega)]
          refine ⟨(pI b, pI (t : Nat), pI (q + 1 : Nat), O), rfl, rfl, fr_trans hf fO, b, t, rfl, hb, ht, hbt, rfl, NC_skip hNC (fun _ e he => ?_)⟩
          have := pl_uniq hpl he
          exact ⟨fun z => by have := hbt z; omega, by omega⟩
        · rw [if_neg (show ¬ (pI (t : Nat) ≤ pI (lt α n : Nat)) by rw [pi_le (by omega) (by omega) (by omega) (by omega)]; omega)]
          exact ⟨(pI (q : Nat), pI (lt α n : Nat), pI (q + 1 : Nat), O), rfl, rfl, fr_trans hf fO, q, lt α n, rfl, by omega, Or.inl (by omega), fun z => by omega, rfl, NC_take hNC hk2 hpl (Or.inr (by omega))⟩
      · rw [g3, am_b_some, if_pos ci0, c3]
        exact ⟨(pI b, pI (t : Nat), pI (q + 1 : Nat), O), rfl, rfl, fr_trans hf fO, b, t, rfl, hb, ht, hbt, rfl, NC_skip hNC (fun _ e he => absurd he (q1 e))⟩
    · rw [if_neg hk2, if_pos rfl, c3]
      exact ⟨(pI b, pI (t : Nat), pI (q + 1 : Nat), N), rfl, rfl, hf, b, t, rfl, hb, ht, hbt, rfl, NC_skip hNC (fun z => absurd z hk2)⟩) (by
    rintro m ⟨v1, v2, v3, N⟩ ⟨e3, hf, b, t, e1, hb, ht, hbt, e2, hNC⟩
    dsimp only at e1 e2 e3 hf
    subst e1 e2 e3
    refine ⟨(pI b, N), ?_, hf, b, t, rfl, hNC⟩
    dsimp only
    rw [g_X3_nearestCharger_L8]
    exact if_pos (by decide))
  dsimp only at g2 ex f2
  subst ex
  refine ⟨b, t, N, ?_, f2, hN⟩
  unfold g_X3_nearestCharger
  exact (congrArg (fun z => am_b z _) g2).trans rfl
theorem s_mnearest {σ : Nat → Int} {r : Nat} {P : am_M} (hs : sg P = σ) (hO : OK σ) (h11 : iv P 174 11 = -1) (hr : (r : Int) < σ 6) (h3 : ro σ r 3 = 0) : ∃ (b : Int) (t : Nat) (N : am_M), g_X10_planToCharger_L40 (pI r) am_fu (-1 : Int32) (0 : Int32) (0 : Int32) P = some (pI b, N) ∧ fr [174, 180, 181, 182, 183, 184] P N ∧ (∀ k, k ≠ 15 → k ≠ 16 → k ≠ 17 → iv N 174 k = iv P 174 k) ∧ NC σ r 40 b t := by
  have h6 := hO.2.2.1
  obtain ⟨⟨u, N⟩, g2, f2, k2, b, t, ex, hN⟩ := lo_for (fun m (s : Int32 × Int32 × Int32 × am_M) => g_X10_planToCharger_L40 (pI r) m s.1 s.2.1 s.2.2.1 s.2.2.2) (fun q s => s.2.2.1 = pI (q : Nat) ∧ fr [174, 180, 181, 182, 183, 184] P s.2.2.2 ∧ (∀ k, k ≠ 15 → k ≠ 16 → k ≠ 17 → iv s.2.2.2 174 k = iv P 174 k) ∧ ∃ (b : Int) (t : Nat), s.1 = pI b ∧ (-1 ≤ b ∧ b < 40) ∧ t ≤ 30 ∧ s.2.1 = pI (t : Nat) ∧ NC σ r q b t) (fun s => fr [174, 180, 181, 182, 183, 184] P s.2 ∧ (∀ k, k ≠ 15 → k ≠ 16 → k ≠ 17 → iv s.2 174 k = iv P 174 k) ∧ ∃ (b : Int) (t : Nat), s.1 = pI b ∧ NC σ r 40 b t) 0 40 (pI (-1), pI 0, pI 0, P) ⟨rfl, fr_refl _ _, fun k _ _ _ => rfl, -1, 0, rfl, by omega, by omega, rfl, Or.inl ⟨rfl, fun c hc => by omega⟩⟩ (by omega) (by unfold am_fu; omega) (by
    rintro m q ⟨v1, v2, v3, N⟩ hq ⟨e3, hf, hkf, b, t, e1, hb, ht, e2, hNC⟩
    dsimp only at e1 e2 e3 hf hkf
    subst e1 e2 e3
    left
    have hsN : sg N = σ := (sg_fr hf (by decide)).trans hs
    have h11N : iv N 174 11 = -1 := by rw [hkf 11 (by omega) (by omega) (by omega)]; exact h11
    have hk := hO.2.2.2.2.1 q hq
    have c3 : pI (q : Nat) + (1 : Int32) = pI (q + 1 : Nat) := by rw [show (1 : Int32) = pI 1 from rfl, pi_add]; rfl
    have c8 : (8 : Int32) + pI (q : Nat) = pI (8 + (q : Int)) := by rw [show (8 : Int32) = pI 8 from rfl, pi_add]
    have hat : am_g N 175 (pI (8 + (q : Int))).toNatClampNeg = pI (σ (8 + q)) := by
      rw [pi_cn (by omega) (by omega), show (8 + (q : Int)).toNat = 8 + q by omega, pi_g, show iv N 175 (8 + q) = σ (8 + q) from congrFun hsN _]
    dsimp only
    rw [g_X10_planToCharger_L40, if_neg (show ¬ ((40 : Int32) ≤ pI (q : Nat)) by show ¬ (pI 40 ≤ _); rw [pi_le (by omega) (by omega) (by omega) (by omega)]; omega), c8, pi_ci (by omega) (by omega) (by omega), hat, c3]
    by_cases hk2 : σ (8 + q) = 2
    · rw [if_pos (show pI (σ (8 + q)) = (2 : Int32) by rw [hk2]; rfl)]
      obtain ⟨O, fO, kO, hO2⟩ := s_canPlan hsN hO h11N hr h3 (g := (q : Int)) (by omega)
      have hkO : ∀ k, k ≠ 15 → k ≠ 16 → k ≠ 17 → iv O 174 k = iv P 174 k := fun k a1 a2 a3 => by rw [kO k a1 a2 a3, hkf k a1 a2 a3]
      rcases hO2 with ⟨α, n, g3, q1, q2, q3⟩ | ⟨g3, q1⟩
      · have hfac := rtg_facts hO.2.1 (ro_cell (hO.2.2.2.2.2.1 r hr).1) q1
        have hpl : pl σ r q (lt α n) := ⟨α, n, q1, rfl, q2⟩
        have c4 : am_g O 174 16 = pI (lt α n : Nat) := by rw [pi_g, q3.2.1]
        rw [g3, am_b_some, if_neg ci1, c4]
        by_cases hb1 : b = -1
        · rw [if_pos (show pI b = (-1 : Int32) by rw [hb1]; rfl)]
          exact ⟨(pI (q : Nat), pI (lt α n : Nat), pI (q + 1 : Nat), O), rfl, rfl, fr_trans hf fO, hkO, q, lt α n, rfl, by omega, by omega, rfl, NC_take hNC hk2 hpl (Or.inl hb1)⟩
        · rw [if_neg (show ¬ (pI b = (-1 : Int32)) from fun z => hb1 ((pi_eq (b := -1) (by omega) (by omega) (by omega) (by omega)).mp z))]
          by_cases hle : t ≤ lt α n
          · rw [if_pos (show pI (t : Nat) ≤ pI (lt α n : Nat) by rw [pi_le (by omega) (by omega) (by omega) (by omega)]; omega)]
            refine ⟨(pI b, pI (t : Nat), pI (q + 1 : Nat), O), rfl, rfl, fr_trans hf fO, hkO, b, t, rfl, hb, ht, rfl, NC_skip hNC (fun _ e he => ?_)⟩
            have := pl_uniq hpl he
            exact ⟨hb1, by omega⟩
          · rw [if_neg (show ¬ (pI (t : Nat) ≤ pI (lt α n : Nat)) by rw [pi_le (by omega) (by omega) (by omega) (by omega)]; omega)]
            exact ⟨(pI (q : Nat), pI (lt α n : Nat), pI (q + 1 : Nat), O), rfl, rfl, fr_trans hf fO, hkO, q, lt α n, rfl, by omega, by omega, rfl, NC_take hNC hk2 hpl (Or.inr (by omega))⟩
      · rw [g3, am_b_some, if_pos ci0]
        exact ⟨(pI b, pI (t : Nat), pI (q + 1 : Nat), O), rfl, rfl, fr_trans hf fO, hkO, b, t, rfl, hb, ht, rfl, NC_skip hNC (fun _ e he => absurd he (q1 e))⟩
    · rw [if_neg (show ¬ (pI (σ (8 + q)) = (2 : Int32)) from fun z => hk2 ((pi_eq (b := 2) (by omega) (by omega) (by omega) (by omega)).mp z))]
      exact ⟨(pI b, pI (t : Nat), pI (q + 1 : Nat), N), rfl, rfl, hf, hkf, b, t, rfl, hb, ht, rfl, NC_skip hNC (fun z => absurd z hk2)⟩) (by
    rintro m ⟨v1, v2, v3, N⟩ ⟨e3, hf, hkf, b, t, e1, hb, ht, e2, hNC⟩
    dsimp only at e1 e2 e3 hf hkf
    subst e1 e2 e3
    refine ⟨(pI b, N), ?_, hf, hkf, b, t, rfl, hNC⟩
    dsimp only
    rw [g_X10_planToCharger_L40]
    exact if_pos (by decide))
  dsimp only at g2 ex f2 k2
  subst ex
  exact ⟨b, t, N, g2, f2, k2, hN⟩
theorem cs_planToCharger {M : am_M} (hI : INV M) (a : Int32) : CS (g_L_planToCharger a M) (g_X10_planToCharger a) := by
  obtain ⟨x, rfl, hx1, hx2⟩ := pi_cast a
  have hO := hI.1
  have hW := hI.2.1
  have h6 := hO.2.2.1
  have g0 := s_demandRobot (x := x) (M := M) hx1 hx2
  rw [hW.2.1.1] at g0
  by_cases c : 0 ≤ x ∧ x < sg M 6
  · obtain ⟨r, rfl⟩ : ∃ r : Nat, x = r := ⟨x.toNat, by omega⟩
    rw [if_pos c] at g0
    have hr5 : r < 5 := by omega
    have hRF := hO.2.2.2.2.2.1 r c.2
    have g1 := s_demandOutsideLift hW hO c.2
    by_cases hl : 0 < ro (sg M) r 3
    · rw [if_pos hl] at g1
      refine CS_no1 (k := 2) (v := 0) hI ?_ ?_ (by omega)
      · unfold g_L_planToCharger g_X9_planToCharger
        rw [g0, am_bx_inl, g1, am_bx_inr]
        rfl
      · unfold g_X10_planToCharger
        rw [show am_s M 174 0 (0 : Int32) = am_s M 174 0 (pI 0) from rfl, mrob_t (σ := sg M) sg_t hO c, am_b_some, if_neg ci1, mlift_t (σ := sg M) sg_t hr5 hl, am_b_some, if_neg ci1]
        rfl
    · rw [if_neg hl] at g1
      have h3 : ro (sg M) r 3 = 0 := by have := hRF.1.2.2.2.1; omega
      obtain ⟨b, t, N, g2, f2, hNC⟩ := s_nearest hW hO c.2 h3
      have hIN : INV N := INV_fr hI f2 (by decide)
      have hsN : sg N = sg M := sg_fr f2 (by decide)
      -- the model's loop at any memory
      have hmod : ∀ P, sg P = sg M → iv P 174 11 = -1 → ∃ (t' : Nat) (R : am_M), fr [174, 180, 181, 182, 183, 184] P R ∧ (∀ k, k ≠ 0 → k ≠ 15 → k ≠ 16 → k ≠ 17 → iv R 174 k = iv P 174 k) ∧ iv R 174 0 = 0 ∧ NC (sg M) r 40 b t' ∧ g_X10_planToCharger (pI r) P = (if pI b = (-1 : Int32) then (am_b (g_X10_fails (3 : Int32) R) (fun v24 M23 => (some (v24, M23)))) else (am_b (g_X10_plan (pI r) (pI b) R) (fun v21 M20 => (some (pI b, M20))))) := fun P hP h11 => by
        have hs : sg (am_s P 174 0 (pI 0)) = sg M := sg_t.trans hP
        obtain ⟨b', t', R, g3, f3, k3, hNC'⟩ := s_mnearest hs hO (by rw [iv_b (by decide)]; exact h11) c.2 h3
        have hbb := NC_uniq hNC hNC'
        subst hbb
        refine ⟨t', R, fr_trans (N := am_s P 174 0 (pI 0)) (fr_s (by simp)) f3, fun k q0 q1 q2 q3 => by rw [k3 k q1 q2 q3, iv_b q0], by rw [k3 0 (by omega) (by omega) (by omega), iv_a (by omega) (by omega)], hNC', ?_⟩
        unfold g_X10_planToCharger
        rw [show am_s P 174 0 (0 : Int32) = am_s P 174 0 (pI 0) from rfl, mrob_t hs hO c, am_b_some, if_neg ci1, mlift_f hs hr5 hl, am_b_some, if_pos ci0, g3, am_b_some]
      rcases hNC with ⟨rfl, hno⟩ | ⟨c0, rfl, a1, a2, a3, a4⟩
      · obtain ⟨t', R, f3, k3, t0, _, g4⟩ := hmod N hsN hIN.2.2.1
        rw [if_pos (show pI (-1) = (-1 : Int32) from rfl)] at g4
        have hIR : INV R := INV_scr hIN f3 (by decide) (fun k hk => k3 k (by omega) (by omega) (by omega) (by omega))
        refine CS_no (M := M) (k := 3) (P := N) (Q := am_s R 174 0 (pI 3)) (v := 0) ?_ ?_ (thr_s (by omega) (by omega)) (by decide) (INV_thrown hIR _)
        · unfold g_L_planToCharger g_X9_planToCharger
          rw [g0, am_bx_inl, g1, am_bx_inl, g2, am_b_some, if_pos (by decide)]
          rfl
        · rw [g4]
          rfl
      · obtain ⟨α, n, q1, q2, q3⟩ := a3
        obtain ⟨O, f5, e5, h5⟩ := s_findFinal (M := N) (σ := sg M) (by rw [← hsN]; exact hIN.2.1) hO c.2 h3 (g := (c0 : Int)) (by omega)
        have hIO : INV O := INV_fr hIN f5 (by decide)
        have hsO : sg O = sg M := (sg_fr f5 (by decide)).trans hsN
        rcases h5 with ⟨β, m, g5, q4, q5⟩ | ⟨g5, q4⟩
        · obtain ⟨rfl, q6⟩ := rtg_uniq q1 q4
          obtain ⟨A, g6, _, sA, fA, kA, hpl⟩ := plan_done (r := r) (n := n) (g := (c0 : Int)) (α := β) hIO (by rw [hsO]; exact c.2) (by rw [hsO]; exact h3) (by omega) (by rw [hsO]; exact q4) (by rw [hsO]; exact q5) (by rw [hsO]; exact e5) (by rw [hsO, ← lco_congr q6]; exact q3)
          obtain ⟨P, eP⟩ : ∃ P, P = am_ls A 186 0 (pI (c0 : Nat)).toInt64 := ⟨_, rfl⟩
          have hsP : sg P = sg M := by rw [eP]; exact sA.trans hsO
          have h11P : iv P 174 11 = -1 := by rw [eP]; exact (kA 11).trans hIO.2.2.1
          obtain ⟨t', R, f7, k7, t0, _, g7⟩ := hmod P hsP h11P
          rw [if_neg (show ¬ (pI (c0 : Nat) = (-1 : Int32)) from fun z => by
          have z2 : pI (c0 : Nat) = pI (-1) := z
          have := (pi_eq (a := c0) (b := -1) (by omega) (by omega) (by omega) (by omega)).mp z2
          omega)] at g7
          obtain ⟨Q, g8, t8, l8, hIQ⟩ := hpl R (fr_trans (N := P) (by rw [eP]; exact fr_ls (by simp)) (fr_mono f7 (by simp))) (fun k hk => by rw [k7 k (by omega) (by omega) (by omega) (by omega), eP]; rfl)
          refine CS_yes (O := A) (v := pI (c0 : Nat)) (Q := Q) ?_ ?_ t8 ?_ hIQ
          · unfold g_L_planToCharger g_X9_planToCharger
            rw [g0, am_bx_inl, g1, am_bx_inl, g2, am_b_some, if_neg (show ¬ (pI (c0 : Nat) < (0 : Int32)) by show ¬ (_ < pI 0); rw [pi_lt (by omega) (by omega) (by omega) (by omega)]; omega), g5, am_b_some, if_neg ci1, g6, am_b_some]
            rfl
          · rw [← eP, g7, g8, am_b_some]
          · rw [l8, fr_l f7 (by decide), eP]
        · obtain ⟨e, _, e1, e2⟩ := rtg_ok q1
          exact absurd e2 (q4 e e1)
  · rw [if_neg c] at g0
    refine CS_no1 (k := 1) (v := 0) hI ?_ ?_ (by omega)
    · unfold g_L_planToCharger g_X9_planToCharger
      rw [g0, am_bx_inr]
      rfl
    · unfold g_X10_planToCharger
      rw [mrob_f (σ := sg M) sg_t hO hx1 hx2 c, am_b_some, if_pos ci0]
      rfl
end RK
