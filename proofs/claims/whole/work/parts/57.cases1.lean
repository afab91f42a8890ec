/-! the cases arrival, routeCost, plan -/
section QQ
theorem INV_set {M N : am_M} (h : INV M) (hO : OK (sg N)) (hW : WD (sg N) 1 N) (hf : fr KX M N) (h4 : iv N 174 4 = iv M 174 4) (h7 : iv N 174 7 = iv M 174 7) (h8 : iv N 174 8 = iv M 174 8) (h11 : iv N 174 11 = iv M 174 11) : INV N := ⟨hO, hW, IR_keep h.2.2 hf h4 h7 h8 h11⟩
/-- only scratch was written -/
theorem INV_scr {M N : am_M} (h : INV M) {X : List Nat} (hf : fr X M N) (hX : ∀ a ∈ X, (158 ≤ a ∧ a ≤ 165) ∨ a = 174 ∨ (180 ≤ a ∧ a < 188)) (hk : ∀ k, k = 4 ∨ k = 7 ∨ k = 8 ∨ k = 11 → iv N 174 k = iv M 174 k) : INV N := by
  have h175 : 175 ∉ X := fun q => by have := hX _ q; omega
  have e := sg_fr hf h175
  have hO := h.1
  refine INV_set h (by rw [e]; exact hO) ?_ (fr_mono hf (fun a ha => mem_KX.mpr (by have := hX a ha; omega))) (hk 4 (by omega)) (hk 7 (by omega)) (hk 8 (by omega)) (hk 11 (by omega))
  rw [e]
  exact WD_fr h.2.1 hO.2.2.1.2 hO.2.2.2.1.2 hf (fun a b1 b2 q => by have := hX _ q; omega)
theorem thrown_set {M : am_M} {v : Int} : am_g (am_s M 174 0 (pI v)) 174 0 = pI v := by
  unfold am_g am_s
  dsimp only
  rw [if_pos ⟨rfl, rfl⟩]
theorem INV_thrown {M : am_M} (h : INV M) (v : Int32) : INV (am_s M 174 0 v) := by
  refine INV_scr h (X := [174]) (fr_s (by simp)) (fun a ha => by simp at ha; omega) (fun k hk => ?_)
  have : iv (am_s M 174 0 v) 174 k = iv M 174 k := by
    unfold iv am_s
    dsimp only
    rw [if_neg (by omega)]
  exact this
theorem INV_out {M : am_M} (h : INV M) (k : Nat) (v : Int64) : INV (am_ls M 186 k v) := INV_scr h (X := [186]) (fr_ls (by simp)) (fun a ha => by simp at ha; omega) (fun _ _ => rfl)
theorem pi_cast (x : Int32) : ∃ v : Int, x = pI v ∧ -2147483648 ≤ v ∧ v < 2147483648 := ⟨x.toInt, (pi_of x).symm, (pi_rng x).1, (pi_rng x).2⟩
/-- a call that was refused on both sides -/
theorem CS_no {rc : Option (Int32 × am_M)} {rm : am_M → Option (Int32 × am_M)} {M P Q : am_M} {k : Int} {v : Int32} (h1 : rc = some (pI k, P)) (h2 : rm P = some (v, Q)) (h3 : iv Q 174 0 = k) (hk : pI k ≠ 0) (hI : INV Q) : CS rc rm := ⟨pI k, v, P, Q, h1, h2, by rw [pi_g, h3], fun q => absurd q hk, hI⟩
theorem CS_yes {rc : Option (Int32 × am_M)} {rm : am_M → Option (Int32 × am_M)} {O Q : am_M} {v : Int32} (h1 : rc = some (0, am_ls O 186 0 v.toInt64)) (h2 : rm (am_ls O 186 0 v.toInt64) = some (v, Q)) (h3 : iv Q 174 0 = 0) (h4 : am_lg Q 186 0 = am_lg (am_ls O 186 0 v.toInt64) 186 0) (hI : INV Q) : CS rc rm := by
  refine ⟨0, v, am_ls O 186 0 v.toInt64, Q, h1, h2, by rw [pi_g, h3]; rfl, fun _ => ?_, hI⟩
  rw [h4, lg_ls, if_pos ⟨rfl, rfl⟩]
theorem INV_fr {M N : am_M} (h : INV M) {X : List Nat} (hf : fr X M N) (hX : ∀ a ∈ X, (158 ≤ a ∧ a ≤ 165) ∨ (180 ≤ a ∧ a < 188)) : INV N := INV_scr h hf (fun a ha => by have := hX a ha; omega) (fun k _ => fr_i hf (fun q => by have := hX _ q; omega) k)
theorem cs_arrival {M : am_M} (hI : INV M) (a b : Int32) : CS (g_L_arrival a b M) (g_X10_arrival a b) := by
  obtain ⟨x, rfl, hx1, hx2⟩ := pi_cast a
  obtain ⟨y, rfl, hy1, hy2⟩ := pi_cast b
  have hO := hI.1
  have h11 := hI.2.2.1
  rcases s_dfr hI.2.1 hO hx1 hx2 hy1 hy2 with ⟨c, g1⟩ | ⟨r, rfl, hr, hy, ⟨h3, g1⟩ | ⟨h3, O, f1, e2, ⟨α, n, g1, q1, q2⟩ | ⟨g1, q1⟩⟩⟩
  · have g2 := s_rr1 (M := M) rfl hO hx1 hx2 hy1 hy2 c
    refine CS_no (M := M) (k := 1) (P := M) (Q := am_s M 174 0 (pI 1)) (v := 0) ?_ ?_ ?_ (by decide) (INV_thrown hI _)
    · unfold g_L_arrival g_X9_arrival
      rw [g1, am_bx_inr]
      rfl
    · unfold g_X10_arrival
      rw [g2, am_b_some]
      rfl
    · simp (disch := (first | omega | exact (iv_rng _ _ _).1 | exact (iv_rng _ _ _).2)) only [pi_lit, pi_nat, pi_add, pi_sub, pi_mul, pi_neg, pi_le, pi_lt, pi_eq, pi_cn, pi_ci, pi_g, am_b_some, iv_s, iv_ls, lg_s, lg_ls]
      rw [if_pos (by simp)]
  · have g2 := s_rr2 (M := M) rfl hO hr hy h3
    refine CS_no (M := M) (k := 2) (P := M) (Q := am_s M 174 0 (pI 2)) (v := 0) ?_ ?_ ?_ (by decide) (INV_thrown hI _)
    · unfold g_L_arrival g_X9_arrival
      rw [g1, am_bx_inr]
      rfl
    · unfold g_X10_arrival
      rw [g2, am_b_some]
      rfl
    · simp (disch := (first | omega | exact (iv_rng _ _ _).1 | exact (iv_rng _ _ _).2)) only [pi_lit, pi_nat, pi_add, pi_sub, pi_mul, pi_neg, pi_le, pi_lt, pi_eq, pi_cn, pi_ci, pi_g, am_b_some, iv_s, iv_ls, lg_s, lg_ls]
      rw [if_pos (by simp)]
  · have hIO := INV_fr hI f1 (by decide)
    have hIP := INV_out hIO 0 ((pI (lt α n : Nat)).toInt64)
    have eO : sg O = sg M := sg_fr f1 (by decide)
    have eP : sg (am_ls O 186 0 ((pI (lt α n : Nat)).toInt64)) = sg M := eO
    obtain ⟨N, f2, k2, hN⟩ := s_rr3 (M := am_ls O 186 0 ((pI (lt α n : Nat)).toInt64)) rfl hIP.1 hIP.2.2.1 (y := y) (r := r) (by rw [eP]; exact hr) hy (by rw [eP]; exact h3)
    have hIN : INV N := INV_scr hIP f2 (by decide) (fun k hk => k2 k (by omega) (by omega) (by omega) (by omega))
    rw [eP] at hN
    rcases hN with ⟨β, m, g2, t0, q3, q4⟩ | ⟨g2, t0, q3⟩
    · obtain ⟨rfl, q5⟩ := rtg_uniq q1 q3
      have q6 := MRt_congr (fun k hk => (q5 k hk).symm) q4
      refine CS_yes (O := O) (v := pI (lt α n : Nat)) (Q := N) ?_ ?_ t0 (fr_l f2 (by decide) 0) hIN
      · unfold g_L_arrival g_X9_arrival
        rw [g1, am_bx_inl, pi_g, q2.1]
        rfl
      · unfold g_X10_arrival
        rw [g2, am_b_some, pi_g, q6.2.1]
        rfl
    · obtain ⟨e, e1, e3, e4⟩ := rtg_ok q1
      exact absurd e4 (q3 e e3)
  · have hIO := INV_fr hI f1 (by decide)
    obtain ⟨N, f2, k2, hN⟩ := s_rr3 (M := O) rfl hIO.1 hIO.2.2.1 (y := y) (r := r) (by rw [show sg O = sg M from sg_fr f1 (by decide)]; exact hr) hy (by rw [show sg O = sg M from sg_fr f1 (by decide)]; exact h3)
    have hIN : INV N := INV_scr hIO f2 (by decide) (fun k hk => k2 k (by omega) (by omega) (by omega) (by omega))
    rw [show sg O = sg M from sg_fr f1 (by decide)] at hN
    rcases hN with ⟨β, m, g2, t0, q3, q4⟩ | ⟨g2, t0, q3⟩
    · obtain ⟨e, e1, e3, e4⟩ := rtg_ok q3
      exact absurd e4 (q1 e e3)
    · refine CS_no (M := M) (k := 3) (P := O) (Q := N) (v := 0) ?_ ?_ t0 (by decide) hIN
      · unfold g_L_arrival g_X9_arrival
        rw [g1, am_bx_inr]
        rfl
      · unfold g_X10_arrival
        rw [g2, am_b_some]
        rfl
theorem cs_routeCost {M : am_M} (hI : INV M) (a b : Int32) : CS (g_L_routeCost a b M) (g_X10_routeCost a b) := by
  obtain ⟨x, rfl, hx1, hx2⟩ := pi_cast a
  obtain ⟨y, rfl, hy1, hy2⟩ := pi_cast b
  have hO := hI.1
  have h11 := hI.2.2.1
  rcases s_dfr hI.2.1 hO hx1 hx2 hy1 hy2 with ⟨c, g1⟩ | ⟨r, rfl, hr, hy, ⟨h3, g1⟩ | ⟨h3, O, f1, e2, ⟨α, n, g1, q1, q2⟩ | ⟨g1, q1⟩⟩⟩
  · have g2 := s_rr1 (M := M) rfl hO hx1 hx2 hy1 hy2 c
    refine CS_no (M := M) (k := 1) (P := M) (Q := am_s M 174 0 (pI 1)) (v := 0) ?_ ?_ ?_ (by decide) (INV_thrown hI _)
    · unfold g_L_routeCost g_X9_routeCost
      rw [g1, am_bx_inr]
      rfl
    · unfold g_X10_routeCost
      rw [g2, am_b_some]
      rfl
    · simp (disch := (first | omega | exact (iv_rng _ _ _).1 | exact (iv_rng _ _ _).2)) only [pi_lit, pi_nat, pi_add, pi_sub, pi_mul, pi_neg, pi_le, pi_lt, pi_eq, pi_cn, pi_ci, pi_g, am_b_some, iv_s, iv_ls, lg_s, lg_ls]
      rw [if_pos (by simp)]
  · have g2 := s_rr2 (M := M) rfl hO hr hy h3
    refine CS_no (M := M) (k := 2) (P := M) (Q := am_s M 174 0 (pI 2)) (v := 0) ?_ ?_ ?_ (by decide) (INV_thrown hI _)
    · unfold g_L_routeCost g_X9_routeCost
      rw [g1, am_bx_inr]
      rfl
    · unfold g_X10_routeCost
      rw [g2, am_b_some]
      rfl
    · simp (disch := (first | omega | exact (iv_rng _ _ _).1 | exact (iv_rng _ _ _).2)) only [pi_lit, pi_nat, pi_add, pi_sub, pi_mul, pi_neg, pi_le, pi_lt, pi_eq, pi_cn, pi_ci, pi_g, am_b_some, iv_s, iv_ls, lg_s, lg_ls]
      rw [if_pos (by simp)]
  · have hIO := INV_fr hI f1 (by decide)
    have hIP := INV_out hIO 0 ((pI (lco α n)).toInt64)
    have eO : sg O = sg M := sg_fr f1 (by decide)
    have eP : sg (am_ls O 186 0 ((pI (lco α n)).toInt64)) = sg M := eO
    obtain ⟨N, f2, k2, hN⟩ := s_rr3 (M := am_ls O 186 0 ((pI (lco α n)).toInt64)) rfl hIP.1 hIP.2.2.1 (y := y) (r := r) (by rw [eP]; exact hr) hy (by rw [eP]; exact h3)
    have hIN : INV N := INV_scr hIP f2 (by decide) (fun k hk => k2 k (by omega) (by omega) (by omega) (by omega))
    rw [eP] at hN
    rcases hN with ⟨β, m, g2, t0, q3, q4⟩ | ⟨g2, t0, q3⟩
    · obtain ⟨rfl, q5⟩ := rtg_uniq q1 q3
      have q6 := MRt_congr (fun k hk => (q5 k hk).symm) q4
      refine CS_yes (O := O) (v := pI (lco α n)) (Q := N) ?_ ?_ t0 (fr_l f2 (by decide) 0) hIN
      · unfold g_L_routeCost g_X9_routeCost
        rw [g1, am_bx_inl, pi_g, q2.2.1]
        rfl
      · unfold g_X10_routeCost
        rw [g2, am_b_some, pi_g, q6.2.2.1]
        rfl
    · obtain ⟨e, e1, e3, e4⟩ := rtg_ok q1
      exact absurd e4 (q3 e e3)
  · have hIO := INV_fr hI f1 (by decide)
    obtain ⟨N, f2, k2, hN⟩ := s_rr3 (M := O) rfl hIO.1 hIO.2.2.1 (y := y) (r := r) (by rw [show sg O = sg M from sg_fr f1 (by decide)]; exact hr) hy (by rw [show sg O = sg M from sg_fr f1 (by decide)]; exact h3)
    have hIN : INV N := INV_scr hIO f2 (by decide) (fun k hk => k2 k (by omega) (by omega) (by omega) (by omega))
    rw [show sg O = sg M from sg_fr f1 (by decide)] at hN
    rcases hN with ⟨β, m, g2, t0, q3, q4⟩ | ⟨g2, t0, q3⟩
    · obtain ⟨e, e1, e3, e4⟩ := rtg_ok q3
      exact absurd e4 (q1 e e3)
    · refine CS_no (M := M) (k := 3) (P := O) (Q := N) (v := 0) ?_ ?_ t0 (by decide) hIN
      · unfold g_L_routeCost g_X9_routeCost
        rw [g1, am_bx_inr]
        rfl
      · unfold g_X10_routeCost
        rw [g2, am_b_some]
        rfl
theorem cs_plan {M : am_M} (hI : INV M) (a b : Int32) : CS (g_L_plan a b M) (g_X10_plan a b) := by
  obtain ⟨x, rfl, hx1, hx2⟩ := pi_cast a
  obtain ⟨y, rfl, hy1, hy2⟩ := pi_cast b
  have hO := hI.1
  have h11 := hI.2.2.1
  rcases s_dfr hI.2.1 hO hx1 hx2 hy1 hy2 with ⟨c, g1⟩ | ⟨r, rfl, hr, hy, ⟨h3, g1⟩ | ⟨h3, O, f1, e2, ⟨α, n, g1, q1, q2⟩ | ⟨g1, q1⟩⟩⟩
  · have g2 := s_rr1 (M := M) rfl hO hx1 hx2 hy1 hy2 c
    refine CS_no (M := M) (k := 1) (P := M) (Q := am_s M 174 0 (pI 1)) (v := 0) ?_ ?_ ?_ (by decide) (INV_thrown hI _)
    · unfold g_L_plan g_X9_plan
      rw [g1, am_bx_inr]
      rfl
    · unfold g_X10_plan
      rw [g2, am_b_some]
      rfl
    · simp (disch := (first | omega | exact (iv_rng _ _ _).1 | exact (iv_rng _ _ _).2)) only [pi_lit, pi_nat, pi_add, pi_sub, pi_mul, pi_neg, pi_le, pi_lt, pi_eq, pi_cn, pi_ci, pi_g, am_b_some, iv_s, iv_ls, lg_s, lg_ls]
      rw [if_pos (by simp)]
  · have g2 := s_rr2 (M := M) rfl hO hr hy h3
    refine CS_no (M := M) (k := 2) (P := M) (Q := am_s M 174 0 (pI 2)) (v := 0) ?_ ?_ ?_ (by decide) (INV_thrown hI _)
    · unfold g_L_plan g_X9_plan
      rw [g1, am_bx_inr]
      rfl
    · unfold g_X10_plan
      rw [g2, am_b_some]
      rfl
    · simp (disch := (first | omega | exact (iv_rng _ _ _).1 | exact (iv_rng _ _ _).2)) only [pi_lit, pi_nat, pi_add, pi_sub, pi_mul, pi_neg, pi_le, pi_lt, pi_eq, pi_cn, pi_ci, pi_g, am_b_some, iv_s, iv_ls, lg_s, lg_ls]
      rw [if_pos (by simp)]
  · have hIO := INV_fr hI f1 (by decide)
    have eO : sg O = sg M := sg_fr f1 (by decide)
    have hWO : WD (sg M) 1 O := by have := hIO.2.1; rw [eO] at this; exact this
    have h6 := hO.2.2.1
    have hRF := hO.2.2.2.2.2.1 r hr
    have hfac := rtg_facts hO.2.1 (ro_cell hRF.1) q1
    have hln := lt_ge α n
    have h4b : (ro (sg M) r 4).toNat < 12 := by have := hRF.2.2.2.1; have := hO.2.2.2.1; omega
    have hbat : iv O (16 + 5 * r) 2 = ro (sg M) r 1 := by
      have := (hWO.2.2.2.1 r hr).2.1
      rw [show 1 + 15 + 5 * r = 16 + 5 * r by omega] at this
      exact this
    have hbr := iv_rng O (16 + 5 * r) 2
    rw [hbat] at hbr
    have gaf : g_X3_isAffordable (pI r) O = some (pI (if ro (sg M) r 1 < lco α n then 0 else 1), O) := by
      unfold g_X3_isAffordable
      have c1 : am_g O (16 + 5 * r) 2 = pI (ro (sg M) r 1) := by rw [pi_g, hbat]
      have c2 : am_g O 158 4 = pI (lco α n) := by rw [pi_g, q2.2.1]
      rw [s_robotOf O (by omega), am_b_some, show 1 + 15 + 5 * r = 16 + 5 * r by omega, c1, c2]
      simp (disch := (first | omega | exact (iv_rng _ _ _).1 | exact (iv_rng _ _ _).2)) only [pi_lit, pi_nat, pi_add, pi_sub, pi_mul, pi_neg, pi_le, pi_lt, pi_eq, pi_cn, pi_ci, pi_g, am_b_some, iv_s, iv_ls, lg_s, lg_ls, if_true, if_false, Int.reduceEq, Int.reduceLT, Int.reduceLE, Int.reduceToNat]
      split <;> rfl
    by_cases hb : ro (sg M) r 1 < lco α n
    · rw [if_pos hb] at gaf
      obtain ⟨N, f2, k2, hN⟩ := s_rr3 (M := O) eO hO hIO.2.2.1 (y := y) (r := r) hr hy h3
      rcases hN with ⟨β, m, g2, t0, q3, q4⟩ | ⟨g2, t0, q3⟩
      · obtain ⟨rfl, q5⟩ := rtg_uniq q1 q3
        have q6 := MRt_congr (fun k hk => (q5 k hk).symm) q4
        have hIN : INV N := INV_scr hIO f2 (by decide) (fun k hk => k2 k (by omega) (by omega) (by omega) (by omega))
        refine CS_no (M := M) (k := 4) (P := O) (Q := am_s N 174 0 (pI 4)) (v := 0) ?_ ?_ ?_ (by decide) (INV_thrown hIN _)
        · unfold g_L_plan g_X9_plan
          rw [g1, am_bx_inl, gaf, am_b_some, if_pos ci0]
          rfl
        · unfold g_X10_plan
          have eN : sg N = sg M := (sg_fr f2 (by decide)).trans eO
          have c1 : g_X10_of (pI r) (1 : Int32) N = some (pI (ro (sg M) r 1), N) := by
            rw [show (1 : Int32) = pI 1 from rfl, s_of N (by omega) (by omega), eN]
          have c2 : am_g N 174 17 = pI (lco α n) := by rw [pi_g, q6.2.2.1]
          rw [g2, am_b_some, if_pos (by decide), c1, am_b_some, c2, if_neg (show ¬ (pI (lco α n) ≤ pI (ro (sg M) r 1)) by rw [pi_le (by omega) (by omega) (by omega) (by omega)]; omega)]
          rfl
        · simp (disch := (first | omega | exact (iv_rng _ _ _).1 | exact (iv_rng _ _ _).2)) only [pi_lit, pi_nat, pi_add, pi_sub, pi_mul, pi_neg, pi_le, pi_lt, pi_eq, pi_cn, pi_ci, pi_g, am_b_some, iv_s, iv_ls, lg_s, lg_ls]
          rw [if_pos (by simp)]
      · obtain ⟨e, e1, e3, e4⟩ := rtg_ok q1
        exact absurd e4 (q3 e e3)
    · rw [if_neg hb] at gaf
      obtain ⟨A, g3, f3, hWA⟩ := s_adopt (s := -1) hWO hO hr h3 (by omega) (by omega) q2 e2 (by omega)
      rw [folS_self (by omega)] at hWA
      have eA : sg A = sg M := (sg_fr f3 (by simp; omega)).trans eO
      obtain ⟨P, eP⟩ : ∃ P, P = am_ls A 186 0 ((pI (lt α n : Nat)).toInt64) := ⟨_, rfl⟩
      have ePs : sg P = sg M := by rw [eP]; exact eA
      have h11P : iv P 174 11 = -1 := by
        rw [eP]
        show iv A 174 11 = -1
        rw [fr_i f3 (by simp; omega)]
        exact hIO.2.2.1
      obtain ⟨N, f2, k2, hN⟩ := s_rr3 (M := P) ePs hO h11P (y := y) (r := r) hr hy h3
      rcases hN with ⟨β, m, g2, t0, q3, q4⟩ | ⟨g2, t0, q3⟩
      · obtain ⟨rfl, q5⟩ := rtg_uniq q1 q3
        have q6 := MRt_congr (fun k hk => (q5 k hk).symm) q4
        have eN : sg N = sg M := (sg_fr f2 (by decide)).trans ePs
        obtain ⟨Q, g4, f4, eQ⟩ := s_follows (r := r) (α := α) (n := n) eN (by omega) (by have := hRF.2.2.2.1; have := hO.2.2.2.1; omega) (by omega) q6.1 q6.2.2.2
        have hOQ : OK (sg Q) := by rw [eQ]; exact OK_fol hO hr h3 (by omega) (rtg_LG hO.2.1 (ro_cell hRF.1) q1)
        have fAP : fr [186] A P := by rw [eP]; exact fr_ls (by simp)
        have fAQ : fr [174, 175, 180, 181, 182, 183, 184, 186] A Q := fr_trans (fr_mono fAP (by simp)) (fr_trans (fr_mono f2 (by simp)) (fr_mono f4 (by simp)))
        have hWQ : WD (sg Q) 1 Q := by
          rw [eQ]
          refine WD_fr hWA ?_ ?_ fAQ (by intro z z1 z2 z3; simp at z3; omega)
          · rw [folF_low (by omega)]; omega
          · rw [folF_low (by omega)]; exact hO.2.2.2.1.2
        have fMQ : fr KX O Q := fr_trans (fr_mono f3 (fun z hz => mem_KX.mpr (by simp at hz; omega))) (fr_mono fAQ (by decide))
        have hk : ∀ k, k = 4 ∨ k = 7 ∨ k = 8 ∨ k = 11 → iv Q 174 k = iv O 174 k := fun k hk => by
          rw [fr_i f4 (by simp), k2 k (by omega) (by omega) (by omega) (by omega), eP]
          exact fr_i f3 (by simp; omega) k
        have hIQ : INV Q := INV_set hIO hOQ hWQ fMQ (hk 4 (by omega)) (hk 7 (by omega)) (hk 8 (by omega)) (hk 11 (by omega))
        refine CS_yes (O := A) (v := pI (lt α n : Nat)) (Q := Q) ?_ ?_ ?_ ?_ hIQ
        · unfold g_L_plan g_X9_plan
          have c3 : am_g A 158 3 = pI (lt α n : Nat) := by rw [pi_g, fr_i f3 (by simp; omega), q2.1]
          rw [g1, am_bx_inl, gaf, am_b_some, if_neg ci1, show (-1 : Int32) = pI (-1) from rfl, g3, am_b_some, c3]
          rfl
        · unfold g_X10_plan
          have c1 : g_X10_of (pI r) (1 : Int32) N = some (pI (ro (sg M) r 1), N) := by
            rw [show (1 : Int32) = pI 1 from rfl, s_of N (by omega) (by omega), eN]
          have c2 : am_g N 174 17 = pI (lco α n) := by rw [pi_g, q6.2.2.1]
          have c4 : am_g Q 174 16 = pI (lt α n : Nat) := by rw [pi_g, fr_i f4 (by simp), q6.2.1]
          rw [← eP, g2, am_b_some, if_pos (by decide), c1, am_b_some, c2, if_pos (show pI (lco α n) ≤ pI (ro (sg M) r 1) by rw [pi_le (by omega) (by omega) (by omega) (by omega)]; omega), g4, am_b_some, c4]
        · rw [fr_i f4 (by simp)]; exact t0
        · rw [fr_l f4 (by simp), fr_l f2 (by decide), eP]
      · obtain ⟨e, e1, e3, e4⟩ := rtg_ok q1
        exact absurd e4 (q3 e e3)
  · have hIO := INV_fr hI f1 (by decide)
    obtain ⟨N, f2, k2, hN⟩ := s_rr3 (M := O) (sg_fr f1 (by decide)) hO hIO.2.2.1 (y := y) (r := r) hr hy h3
    have hIN : INV N := INV_scr hIO f2 (by decide) (fun k hk => k2 k (by omega) (by omega) (by omega) (by omega))
    rcases hN with ⟨β, m, g2, t0, q3, q4⟩ | ⟨g2, t0, q3⟩
    · obtain ⟨e, e1, e3, e4⟩ := rtg_ok q3
      exact absurd e4 (q1 e e3)
    · refine CS_no (M := M) (k := 3) (P := O) (Q := N) (v := 0) ?_ ?_ t0 (by decide) hIN
      · unfold g_L_plan g_X9_plan
        rw [g1, am_bx_inr]
        rfl
      · unfold g_X10_plan
        rw [g2, am_b_some]
        rfl
end QQ
