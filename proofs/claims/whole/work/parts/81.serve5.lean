/-! the case serve, both sides together -/
section RP
theorem fol_it4 {σ : Nat → Int} (hO : OK σ) {j r n : Nat} {α : Nat → Int} (hr : (r : Int) < σ 6) (hj : (j : Int) < σ 7) (hn : n ≤ 30) (hs : it σ j 4 = 0 ∨ it σ j 4 = 3) : it (folF σ r α n) j 4 = it σ j 4 := by
  have hRF := hO.2.2.2.2.2.1 r hr
  have h4r := hRF.2.2.2.1
  have h6 := hO.2.2.1
  have := folF_it (σ := σ) (α := α) (j := j) (k := 4) hn (show r < 5 by omega) h4r.1 (by omega)
  have hne : ro σ r 4 ≠ j := fun q => by
    have h5 := (hRF.2.2.2.2 (by omega)).2.1
    rw [q] at h5
    omega
  rw [if_neg (fun q => hne q.1), if_neg (fun q => hne q.1)] at this
  exact this
/-- the class lets a robot serve -/
theorem s_serveYes {σ : Nat → Int} {j r n : Nat} {α : Nat → Int} {M : am_M} (hW : WD σ 1 M) (hO : OK σ) (hr : (r : Int) < σ 6) (hj : (j : Int) < σ 7) (hs : it σ j 4 = 0 ∨ it σ j 4 = 3) (hsv : sv σ j r 0 α n) (hR : RW σ 158 (ro σ r 0) α n M) (hS : iv M 158 2 = σ 0) : OK (asF (folF σ r α n) j r) ∧ ∃ A N, g_X3_adopt (pI r) (pI j) M = some ((), A) ∧ g_X7_become (41 + j) (1 : Int32) (0 : Int32) (pI r) A = some ((), N) ∧ fr [16 + 5 * r, 17 + 5 * r, 18 + 5 * r, 19 + 5 * r, 41 + (ro σ r 4).toNat, 41 + j] M N ∧ WD (asF (folF σ r α n) j r) 1 N := by
  obtain ⟨h3, hL, hco, hn0⟩ := sv_LG hO hr hj hsv
  have h6 := hO.2.2.1
  have h7 := hO.2.2.2.1
  have hr5 : r < 5 := by omega
  have hRF := hO.2.2.2.2.2.1 r hr
  have hln := lt_ge α n
  have hn30 : n ≤ 30 := by have := hL.2.2.1; omega
  have hO1 := OK_fol hO hr h3 hn30 hL
  have e6 : folF σ r α n 6 = σ 6 := folF_low (by omega)
  have e7 : folF σ r α n 7 = σ 7 := folF_low (by omega)
  have hi4 := fol_it4 (α := α) hO hr hj hn30 hs
  have hO2 := OK_assign (j := j) (r := r) hO1 (by omega) (by omega) (folF_four hr5) (by rw [folF_two]; omega) (by rw [hi4]; exact hs)
  refine ⟨hO2, ?_⟩
  obtain ⟨A, g1, f1, hWA⟩ := s_adopt (s := (j : Int)) hW hO hr h3 hn30 hL.2.2.1 hR hS (by omega)
  obtain ⟨N, g2, f2, k2, t5, t6, t7⟩ := s_become (p := 41 + j) (a := 1) (b := 0) (c := r) (M := A) (by omega) (by omega) (by omega)
  refine ⟨A, N, g1, g2, fr_trans (fr_mono f1 (by simp)) (fr_mono f2 (by simp)), ?_⟩
  have el : ∀ k : Nat, k < 298 → asF (folF σ r α n) j r k = folS σ r α n j k := fun k hk => by
    unfold asF folS
    rw [if_neg (by omega), if_neg (by omega), if_neg (by omega)]
  have eit : ∀ i k : Nat, it (folS σ r α n j) i k = it (folF σ r α n) i k := fun i k => folS_it hr5 i k
  refine WD_tasks2 (σ := folS σ r α n j) (wl_congr (fun k hk => folS_low (by omega)) hO.2.1) (by rw [folS_low (by omega)]; omega) (fun o ho => ?_) hWA (fun k hk _ => el k hk) f2 (fun a b1 b2 b3 h => by simp at h; omega) (fr_i f2 (by simp; omega) 2) (by rw [el 7 (by omega), fr_i f2 (by simp; omega)]; exact hWA.2.1.2.1) (fr_i f2 (by simp; omega) 4) (fun i hi => ?_)
  · rw [folS_low (by omega)] at ho
    by_cases h : o = r
    · subst h
      have : ro (folS σ o α n j) o 2 = ro (folF σ o α n) o 2 := folS_ro (k := 2) (by omega) (by omega)
      rw [this, folF_two]
      omega
    · have : ro (folS σ r α n j) o 2 = ro σ o 2 := folS_other (k := 2) hn30 hr5 (by omega) h (by omega)
      rw [this]
      exact (hO.2.2.2.2.2.1 o ho).1.1.2
  · rw [el 7 (by omega), folS_low (by omega)] at hi
    have hTA := hWA.2.2.2.2 i (by rw [folS_low (by omega)]; exact hi)
    by_cases h : i = j
    · subst h
      have hM := (TB_iff (w := 1) (N := A) (fun k => it (folF σ r α n) i k) (fun k _ => eit i k)).mp hTA
      refine (TB_iff (w := 1) (fun k => if k = 6 then (r : Int) else if k = 5 then 0 else if k = 4 then 1 else it (folF σ r α n) i k) (fun k hk => ?_)).mpr ?_
      · rw [asF_it hr5 hk]
        by_cases c6 : k = 6
        · rw [if_pos ⟨rfl, c6⟩, if_pos c6]
        · rw [if_neg (fun z => c6 z.2), if_neg c6]
          by_cases c5 : k = 5
          · rw [if_pos ⟨rfl, c5⟩, if_pos c5]
          · rw [if_neg (fun z => c5 z.2), if_neg c5]
            by_cases c4 : k = 4
            · rw [if_pos ⟨rfl, c4⟩, if_pos c4]
            · rw [if_neg (fun z => c4 z.2), if_neg c4]
      · rw [show 1 + 40 + i = 41 + i by omega] at hM ⊢
        obtain ⟨⟨m0, m1, m2, m3⟩, m4, m5, m6, m7, m8⟩ := hM
        rw [k2 0 (by omega) (by omega) (by omega), k2 1 (by omega) (by omega) (by omega), k2 2 (by omega) (by omega) (by omega), k2 3 (by omega) (by omega) (by omega), k2 4 (by omega) (by omega) (by omega), k2 8 (by omega) (by omega) (by omega)]
        exact ⟨⟨m0, m1, m2, m3⟩, m4, t5, t6, t7, m8⟩
    · refine (TB_iff (w := 1) (fun k => it (folF σ r α n) i k) (fun k hk => ?_)).mpr ((TB_iff (w := 1) (fun k => it (folF σ r α n) i k) (fun k _ => eit i k)).mp (TB_fr hTA f2 (by simp; omega)))
      rw [asF_it hr5 hk, if_neg (by omega), if_neg (by omega), if_neg (by omega)]
/-- the model lets a robot serve -/
theorem s_mserves {σ : Nat → Int} {j r n : Nat} {α : Nat → Int} {P : am_M} (hs : sg P = σ) (hO : OK σ) (hr : (r : Int) < σ 6) (hj : (j : Int) < σ 7) (hn : n ≤ 30) (hM : MRt α n P) : ∃ Q, g_X10_serves (pI j) (pI r) P = some ((), Q) ∧ fr [175] P Q ∧ sg Q = asF (folF σ r α n) j r := by
  have h6 := hO.2.2.1
  have h7 := hO.2.2.2.1
  have hRF := hO.2.2.2.2.2.1 r hr
  obtain ⟨Q1, g1, f1, e1⟩ := s_follows (r := r) (α := α) (n := n) hs (by omega) (by have := hRF.2.2.2.1; omega) hn hM.1 hM.2.2.2
  refine ⟨am_s (am_s (am_s (am_s Q1 175 (92 + 42 * r) (pI j)) 175 (302 + 9 * j) (pI 1)) 175 (303 + 9 * j) (pI 0)) 175 (304 + 9 * j) (pI r), ?_, fr_trans f1 (fr_trans (fr_s (by simp)) (fr_trans (fr_s (by simp)) (fr_trans (fr_s (by simp)) (fr_s (by simp))))), ?_⟩
  · unfold g_X10_serves
    have ms : ∀ (k : Nat) (v : Int32) (X : am_M), k < 9 → g_X10_set (pI j) (pI k) v X = some ((), am_s X 175 (298 + 9 * j + k) v) := fun k v X hk => mset (by omega) hk
    rw [g1, am_b_some, show (4 : Int32) = pI ((4 : Nat) : Int) from rfl, s_rput _ _ (by omega) (by omega), am_b_some, ms 4 _ _ (by omega), am_b_some, show (5 : Int32) = pI ((5 : Nat) : Int) from rfl, ms 5 _ _ (by omega), am_b_some, show (6 : Int32) = pI ((6 : Nat) : Int) from rfl, ms 6 _ _ (by omega), am_b_some, show (88 + 42 * (r : Int) + ((4 : Nat) : Int)).toNat = 92 + 42 * r by omega, show 298 + 9 * j + 4 = 302 + 9 * j by omega, show 298 + 9 * j + 5 = 303 + 9 * j by omega, show 298 + 9 * j + 6 = 304 + 9 * j by omega]
    rfl
  · rw [sg_up (by omega) (by omega), sg_up (by omega) (by omega), sg_up (by omega) (by omega), sg_up (by omega) (by omega), e1]
    rfl
theorem s_toServe {σ : Nat → Int} {j : Nat} {P : am_M} (hs : sg P = σ) (hj : j < 12) (hr : 0 ≤ it σ j 4 ∧ it σ j 4 ≤ 3) : g_X10_isToServe (pI j) P = some (pI (if it σ j 4 = 0 ∨ it σ j 4 = 3 then 1 else 0), P) := by
  have gi : g_X10_item (pI j) (4 : Int32) P = some (pI (it σ j 4), P) := s_item2 hs (j := j) (w := 4) hj (by omega)
  unfold g_X10_isToServe
  rw [gi, am_b_some]
  by_cases h0 : it σ j 4 = 0
  · rw [if_pos (show pI (it σ j 4) = (0 : Int32) by rw [h0]; rfl), if_pos (Or.inl h0)]
    rfl
  · rw [if_neg (show ¬ (pI (it σ j 4) = (0 : Int32)) from fun q => h0 ((pi_eq (b := 0) (by omega) (by omega) (by omega) (by omega)).mp q)), gi, am_b_some]
    by_cases h3 : it σ j 4 = 3
    · rw [if_pos (show pI (it σ j 4) = (3 : Int32) by rw [h3]; rfl), if_pos (Or.inr h3)]
      rfl
    · rw [if_neg (show ¬ (pI (it σ j 4) = (3 : Int32)) from fun q => h3 ((pi_eq (b := 3) (by omega) (by omega) (by omega) (by omega)).mp q)), if_neg (fun q => q.elim h0 h3)]
      rfl
theorem s_servable {σ : Nat → Int} {j : Nat} {M : am_M} (hW : WD σ 1 M) (hj : (j : Int) < σ 7) (h7 : σ 7 ≤ 12) (hr : 0 ≤ it σ j 4 ∧ it σ j 4 ≤ 3) : g_X9_demandServable (pI j) M = some (if it σ j 4 = 0 ∨ it σ j 4 = 3 then .inl () else .inr 3, M) := by
  have h5 : iv M (1 + 40 + j) 5 = it σ j 4 := (hW.2.2.2.2 j hj).2.2.1
  have c1 : am_g M (1 + 40 + j) 5 = pI (it σ j 4) := by rw [pi_g, h5]
  unfold g_X9_demandServable
  rw [s_taskOf (w := 1) (j := j) M (by omega), am_b_some, c1]
  by_cases h1 : it σ j 4 = 1
  · rw [if_pos (show pI (it σ j 4) = (1 : Int32) by rw [h1]; rfl), if_neg (by omega)]
  · rw [if_neg (show ¬ (pI (it σ j 4) = (1 : Int32)) from fun q => h1 ((pi_eq (b := 1) (by omega) (by omega) (by omega) (by omega)).mp q))]
    by_cases h2 : it σ j 4 = 2
    · rw [if_pos (show pI (it σ j 4) = (2 : Int32) by rw [h2]; rfl), if_neg (by omega)]
    · rw [if_neg (show ¬ (pI (it σ j 4) = (2 : Int32)) from fun q => h2 ((pi_eq (b := 2) (by omega) (by omega) (by omega) (by omega)).mp q)), if_pos (by omega)]
theorem cs_serve {M : am_M} (hI : INV M) (a b : Int32) : CS (g_L_serve a b M) (g_X10_serve a b) := by
  obtain ⟨x, rfl, hx1, hx2⟩ := pi_cast a
  obtain ⟨y, rfl, hy1, hy2⟩ := pi_cast b
  have hO := hI.1
  have hW := hI.2.1
  have h6 := hO.2.2.1
  have h7 := hO.2.2.2.1
  have g0 := s_demandTask (x := x) (M := M) hx1 hx2
  rw [hW.2.1.2.1] at g0
  have g1 := s_demandRobot (x := y) (M := M) hy1 hy2
  rw [hW.2.1.1] at g1
  by_cases c : 0 ≤ x ∧ x < sg M 7
  · obtain ⟨j, rfl⟩ : ∃ j : Nat, x = j := ⟨x.toNat, by omega⟩
    rw [if_pos c] at g0
    by_cases d : 0 ≤ y ∧ y < sg M 6
    · obtain ⟨r, rfl⟩ : ∃ r : Nat, y = r := ⟨y.toNat, by omega⟩
      rw [if_pos d] at g1
      have hTF := hO.2.2.2.2.2.2.1 j c.2
      have hst := hTF.2.2.2.2.2.1
      have hRF := hO.2.2.2.2.2.1 r d.2
      have h4b : (ro (sg M) r 4).toNat < 12 := by have := hRF.2.2.2.1; omega
      have g2 := s_servable hW c.2 h7.2 hst
      by_cases hs : it (sg M) j 4 = 0 ∨ it (sg M) j 4 = 3
      · rw [if_pos hs] at g2
        obtain ⟨w, α, n, N, g3, f3, hw, hsv, hyes⟩ := s_findService hW hO d.2 c.2
        have hIN : INV N := INV_fr hI f3 (by decide)
        have hsN : sg N = sg M := sg_fr f3 (by decide)
        have hWN : WD (sg M) 1 N := by rw [← hsN]; exact hIN.2.1
        have gt : ∀ X : am_M, g_X8_taskOf 1 (pI j) X = some (41 + j, X) := fun X => by rw [s_taskOf (w := 1) (j := j) X (by omega), show 1 + 40 + j = 41 + j by omega]
        -- the model up to the reason
        have hmod : ∀ P, sg P = sg M → iv P 174 11 = -1 → ∃ (β : Nat → Int) (m : Nat) (R : am_M), fr [174, 180, 181, 182, 183, 184] P R ∧ (∀ k, k ≠ 0 → k ≠ 15 → k ≠ 16 → k ≠ 17 → iv R 174 k = iv P 174 k) ∧ iv R 174 0 = 0 ∧ sv (sg M) j r w β m ∧ (w = 0 → MRt β m R) ∧ g_X10_serve (pI j) (pI r) P = (if pI w = (0 : Int32) then (am_b (g_X10_serves (pI j) (pI r) R) (fun _ M21 => (am_b (g_X10_set (pI j) (5 : Int32) (pI w) M21) (fun _ M23 => (some (pI w, M23)))))) else (am_b (g_X10_set (pI j) (4 : Int32) (3 : Int32) R) (fun _ M17 => (am_b (g_X10_set (pI j) (5 : Int32) (pI w) M17) (fun _ M19 => (some (pI w, M19))))))) := fun P hP h11 => by
          have hs0 : sg (am_s P 174 0 (pI 0)) = sg M := sg_t.trans hP
          obtain ⟨w', β, m, R, g4, f4, k4, hw', hsv', hyes'⟩ := s_reason (j := j) (r := r) hs0 hO (by rw [iv_b (by decide)]; exact h11) d.2 c.2
          obtain ⟨rfl, _⟩ := sv_uniq hsv hsv'
          refine ⟨β, m, R, fr_trans (N := am_s P 174 0 (pI 0)) (fr_s (by simp)) f4, fun k q0 q1 q2 q3 => by rw [k4 k q1 q2 q3, iv_b q0], by rw [k4 0 (by omega) (by omega) (by omega), iv_a (by omega) (by omega)], hsv', hyes', ?_⟩
          unfold g_X10_serve
          rw [show am_s P 174 0 (0 : Int32) = am_s P 174 0 (pI 0) from rfl, mtask_t hs0 hO c, am_b_some, if_neg ci1, mrob_t hs0 hO d, am_b_some, if_neg ci1, s_toServe hs0 (by omega) hst, am_b_some, if_pos hs, if_neg ci1, g4, am_b_some]
        by_cases hw0 : w = 0
        · subst hw0
          obtain ⟨hR, hS⟩ := hyes rfl
          have hR : RW (sg M) 158 (ro (sg M) r 0) α n N := hR
          obtain ⟨hO2, A, N2, g5, g6, f6, hW2⟩ := s_serveYes hWN hO d.2 c.2 hs hsv hR hS
          obtain ⟨_, hL, _, _⟩ := sv_LG hO d.2 c.2 hsv
          have hn30 : n ≤ 30 := by have := hL.2.2.1; have := lt_ge α n; omega
          obtain ⟨P, eP⟩ : ∃ P, P = am_ls N2 186 0 (pI 0).toInt64 := ⟨_, rfl⟩
          have hsN2 : sg N2 = sg M := (sg_fr f6 (by simp; omega)).trans hsN
          have hsP : sg P = sg M := by rw [eP]; exact hsN2
          have h11P : iv P 174 11 = -1 := by
            rw [eP]
            show iv N2 174 11 = -1
            rw [fr_i f6 (by simp; omega)]
            exact hIN.2.2.1
          obtain ⟨β, m, R, f7, k7, t0, hsv', hM', g7⟩ := hmod P hsP h11P
          rw [if_pos ci0] at g7
          obtain ⟨rfl, hβ⟩ := (sv_uniq hsv hsv').2 rfl
          have hMRt := MRt_congr (fun k hk => (hβ k hk).symm) (hM' rfl)
          have hsR : sg R = sg M := (sg_fr f7 (by decide)).trans hsP
          obtain ⟨Q1, g8, f8, e8⟩ := s_mserves hsR hO d.2 c.2 hn30 hMRt
          obtain ⟨Q, eQ⟩ : ∃ Q, Q = am_s Q1 175 (298 + 9 * j + 5) (pI 0) := ⟨_, rfl⟩
          have e9 : sg Q = asF (folF (sg M) r α n) j r := by
            rw [eQ, sg_up (by omega) (by omega), e8]
            funext k
            by_cases q : k = 298 + 9 * j + 5
            · rw [if_pos q]
              unfold asF
              rw [if_neg (by omega), if_pos (by omega)]
            · rw [if_neg q]
          have fRQ : fr [175] R Q := by rw [eQ]; exact fr_trans f8 (fr_s (by simp))
          have fN2Q : fr [174, 175, 180, 181, 182, 183, 184, 186] N2 Q := fr_trans (N := P) (by rw [eP]; exact fr_ls (by simp)) (fr_trans (fr_mono f7 (by simp)) (fr_mono fRQ (by simp)))
          have hk : ∀ k, k = 4 ∨ k = 7 ∨ k = 8 ∨ k = 11 → iv Q 174 k = iv N 174 k := fun k hk => by
            rw [fr_i fRQ (by simp), k7 k (by omega) (by omega) (by omega) (by omega), eP]
            exact fr_i f6 (by simp; omega) k
          have hIQ : INV Q := INV_set hIN (by rw [e9]; exact hO2) (by
            rw [e9]
            exact WD_fr hW2 hO2.2.2.1.2 hO2.2.2.2.1.2 fN2Q (by intro z z1 z2 z3; simp at z3; omega)) (fr_trans (fr_mono f6 (fun z hz => mem_KX.mpr (by simp at hz; omega))) (fr_mono fN2Q (by decide))) (hk 4 (by omega)) (hk 7 (by omega)) (hk 8 (by omega)) (hk 11 (by omega))
          refine CS_yes (O := N2) (v := pI 0) (Q := Q) ?_ ?_ ?_ ?_ hIQ
          · unfold g_L_serve g_X9_serve g_X3_letServe
            rw [g0, am_bx_inl, g1, am_bx_inl, g2, am_bx_inl, g3, am_b_some, if_pos ci0, g5, am_b_some, gt, am_b_some, g6, am_b_some, am_b_some]
            rfl
          · rw [← eP, g7, g8, am_b_some]
            refine (congrArg (fun z => am_b z _) (mset (k := 5) (show j < 12 by omega) (by omega))).trans ?_
            rw [am_b_some, eQ]
          · rw [fr_i fRQ (by simp)]; exact t0
          · rw [fr_l fRQ (by simp), fr_l f7 (by decide), eP]
        · obtain ⟨N2, g5, f5, k5, t5, t6, t7⟩ := s_become (p := 41 + j) (a := 3) (b := w) (c := -1) (M := N) (by omega) (by omega) (by omega)
          obtain ⟨hO2, hW2⟩ := rf_new (w := w) hO hWN c.2 hs f5 k5 t5 t6 t7
          obtain ⟨P, eP⟩ : ∃ P, P = am_ls N2 186 0 (pI w).toInt64 := ⟨_, rfl⟩
          have hsN2 : sg N2 = sg M := (sg_fr f5 (by simp; omega)).trans hsN
          have hsP : sg P = sg M := by rw [eP]; exact hsN2
          have h11P : iv P 174 11 = -1 := by
            rw [eP]
            show iv N2 174 11 = -1
            rw [fr_i f5 (by simp; omega)]
            exact hIN.2.2.1
          obtain ⟨β, m, R, f7, k7, t0, hsv', hM', g7⟩ := hmod P hsP h11P
          have hwne : ¬ (pI w = (0 : Int32)) := fun q => hw0 ((pi_eq (b := 0) (by omega) (by omega) (by omega) (by omega)).mp q)
          rw [if_neg hwne] at g7
          have hsR : sg R = sg M := (sg_fr f7 (by decide)).trans hsP
          obtain ⟨Q, eQ⟩ : ∃ Q, Q = am_s (am_s R 175 (298 + 9 * j + 4) (pI 3)) 175 (298 + 9 * j + 5) (pI w) := ⟨_, rfl⟩
          have e9 : sg Q = rfF (sg M) j w := by
            rw [eQ, sg_up (by omega) (by omega), sg_up (by omega) (by omega), hsR]
            funext k
            unfold rfF
            rw [show 298 + 9 * j + 5 = 303 + 9 * j by omega, show 298 + 9 * j + 4 = 302 + 9 * j by omega]
          have fRQ : fr [175] R Q := by rw [eQ]; exact fr_trans (fr_s (by simp)) (fr_s (by simp))
          have fN2Q : fr [174, 175, 180, 181, 182, 183, 184, 186] N2 Q := fr_trans (N := P) (by rw [eP]; exact fr_ls (by simp)) (fr_trans (fr_mono f7 (by simp)) (fr_mono fRQ (by simp)))
          have hk : ∀ k, k = 4 ∨ k = 7 ∨ k = 8 ∨ k = 11 → iv Q 174 k = iv N 174 k := fun k hk => by
            rw [fr_i fRQ (by simp), k7 k (by omega) (by omega) (by omega) (by omega), eP]
            exact fr_i f5 (by simp; omega) k
          have hIQ : INV Q := INV_set hIN (by rw [e9]; exact hO2) (by
            rw [e9]
            exact WD_fr hW2 hO2.2.2.1.2 hO2.2.2.2.1.2 fN2Q (by intro z z1 z2 z3; simp at z3; omega)) (fr_trans (fr_mono f5 (fun z hz => mem_KX.mpr (by simp at hz; omega))) (fr_mono fN2Q (by decide))) (hk 4 (by omega)) (hk 7 (by omega)) (hk 8 (by omega)) (hk 11 (by omega))
          refine CS_yes (O := N2) (v := pI w) (Q := Q) ?_ ?_ ?_ ?_ hIQ
          · unfold g_L_serve g_X9_serve g_X3_letServe
            have g5' : g_X7_become (41 + j) (3 : Int32) (pI w) (-1 : Int32) N = some ((), N2) := g5
            rw [g0, am_bx_inl, g1, am_bx_inl, g2, am_bx_inl, g3, am_b_some, if_neg hwne, gt, am_b_some, g5', am_b_some, am_b_some]
            rfl
          · rw [← eP, g7]
            refine (congrArg (fun z => am_b z _) (mset (k := 4) (show j < 12 by omega) (by omega))).trans ?_
            rw [am_b_some]
            refine (congrArg (fun z => am_b z _) (mset (k := 5) (show j < 12 by omega) (by omega))).trans ?_
            rw [am_b_some, eQ]
            rfl
          · rw [fr_i fRQ (by simp)]; exact t0
          · rw [fr_l fRQ (by simp), fr_l f7 (by decide), eP]
      · rw [if_neg hs] at g2
        refine CS_no1 (k := 2) (v := 0) hI ?_ ?_ (by omega)
        · unfold g_L_serve g_X9_serve
          rw [g0, am_bx_inl, g1, am_bx_inl, g2, am_bx_inr]
          rfl
        · unfold g_X10_serve
          rw [show am_s M 174 0 (0 : Int32) = am_s M 174 0 (pI 0) from rfl, mtask_t (σ := sg M) sg_t hO c, am_b_some, if_neg ci1, mrob_t (σ := sg M) sg_t hO d, am_b_some, if_neg ci1, s_toServe (σ := sg M) sg_t (by omega) hst, am_b_some, if_neg hs, if_pos ci0]
          rfl
    · rw [if_neg d] at g1
      refine CS_no1 (k := 1) (v := 0) hI ?_ ?_ (by omega)
      · unfold g_L_serve g_X9_serve
        rw [g0, am_bx_inl, g1, am_bx_inr]
        rfl
      · unfold g_X10_serve
        rw [show am_s M 174 0 (0 : Int32) = am_s M 174 0 (pI 0) from rfl, mtask_t (σ := sg M) sg_t hO c, am_b_some, if_neg ci1, mrob_f (σ := sg M) sg_t hO hy1 hy2 d, am_b_some, if_pos ci0]
        rfl
  · rw [if_neg c] at g0
    refine CS_no1 (k := 1) (v := 0) hI ?_ ?_ (by omega)
    · unfold g_L_serve g_X9_serve
      rw [g0, am_bx_inr]
      rfl
    · unfold g_X10_serve
      rw [mtask_f (σ := sg M) sg_t hO hx1 hx2 c, am_b_some, if_pos ci0]
      rfl
end RP
