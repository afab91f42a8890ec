/-! a robot of the class rests; cancel -/
section RH
theorem s_rest {σ : Nat → Int} {r : Nat} {α : Nat → Int} {M : am_M} (hW : WD σ 1 M) (hO : OK σ) (hr : (r : Int) < σ 6) (h3 : ro σ r 3 = 0) : ∃ N1 N, g_X8_reopenTaskOf 1 (16 + 5 * r) M = some ((), N1) ∧ iv N1 1 4 = σ 0 ∧ g_X2_restAt (17 + 5 * r) (pI (ro σ r 0)) (pI (σ 0)) N1 = some ((), N) ∧ (ro σ r 4 = -1 → N1 = M) ∧ fr [16 + 5 * r, 17 + 5 * r, 19 + 5 * r, 41 + (ro σ r 4).toNat] M N ∧ WD (folF σ r α 0) 1 N := by
  obtain ⟨hC, hwl, h6, h7, hkd, hRF, hTF, hNC⟩ := hO
  have hr5 : r < 5 := by omega
  have h4r := (hRF r hr).2.2.2.1
  obtain ⟨W1, W2, W3, W4, W5⟩ := hW
  obtain ⟨b1, b2, b3, b4, b5⟩ := W4 r hr
  rw [show 1 + 15 + 5 * r = 16 + 5 * r by omega] at b2 b3 b4
  rw [show 1 + 16 + 5 * r = 17 + 5 * r by omega] at b1
  rw [show 1 + 19 + 5 * r = 20 + 5 * r by omega] at b5
  have hcell := ro_cell (hRF r hr).1
  obtain ⟨N1, g1, f1, p1, p2, p3⟩ := s_reopenTaskOf (p := 16 + 5 * r) (s := ro σ r 4) (M := M) b3 (by omega) (by omega)
  obtain ⟨N2, g2, f2, q2, q3, q4, q5⟩ := s_restAt (p := 17 + 5 * r) (c := ro σ r 0) (C := σ 0) N1 (by omega) (by omega) hC
  rw [show 17 + 5 * r + 2 = 19 + 5 * r by omega] at f2 q5
  obtain ⟨t, et⟩ : ∃ t : Nat, t = (ro σ r 4).toNat := ⟨_, rfl⟩
  rw [← et] at f1 p3 ⊢
  have fN : fr [16 + 5 * r, 17 + 5 * r, 19 + 5 * r, 41 + t] M N2 := fr_trans (fr_mono f1 (by simp)) (fr_mono f2 (by simp))
  have hn1 : ∀ a, a ≠ 16 + 5 * r → a ≠ 17 + 5 * r → a ≠ 19 + 5 * r → a ≠ 41 + t → a ∉ [16 + 5 * r, 17 + 5 * r, 19 + 5 * r, 41 + t] := fun a c1 c2 c4 c5 h => by
    simp only [List.mem_cons, List.not_mem_nil, or_false] at h
    omega
  have hlow : ∀ k : Nat, k < 88 → folF σ r α 0 k = σ k := fun k hk => folF_low hk
  have e14 : iv N1 1 4 = σ 0 := by rw [fr_i f1 (by simp; omega)]; exact W2.2.2
  refine ⟨N1, N2, g1, e14, g2, fun h4 => ?_, fN, FLw_low hlow hwl (FLw_fr W1 fN (fun a c1 c2 => hn1 a (by omega) (by omega) (by omega) (by omega))), ?_, fun c hc => ?_, fun i hi => ?_, fun j hj => ?_⟩
  · have : g_X8_reopenTaskOf 1 (16 + 5 * r) M = some ((), M) := by
      unfold g_X8_reopenTaskOf
      rw [pi_g, b3, h4]
      rfl
    rw [this] at g1
    injection g1 with g1
    injection g1 with _ g1
    exact g1.symm
  · rw [hlow 6 (by omega), hlow 7 (by omega), hlow 0 (by omega), fr_i fN (hn1 1 (by omega) (by omega) (by omega) (by omega)), fr_i fN (hn1 1 (by omega) (by omega) (by omega) (by omega)), fr_i fN (hn1 1 (by omega) (by omega) (by omega) (by omega))]
    exact W2
  · rw [hlow _ (by omega), fr_i fN (hn1 (1 + 6) (by omega) (by omega) (by omega) (by omega))]
    exact W3 c hc
  · rw [hlow 6 (by omega)] at hi
    by_cases h : i = r
    · subst h
      refine ⟨?_, ?_, ?_, ?_, fun k hk => ?_⟩
      · rw [hlow 0 (by omega), show 1 + 16 + 5 * i = 17 + 5 * i by omega]
        exact PR_new (fun k hk => hlow k (by omega)) hwl (folF_NR hr5 h3) (by show (0 : Nat) ≤ 30; omega) hC.1 q2 (RW_nil q3 q4 (by rw [show 17 + 5 * i + 2 = 19 + 5 * i by omega]; exact q5))
      · have e1 : ro (folF σ i α 0) i 1 = ro σ i 1 := folF_own hr5 (k := 1) (by omega) (by omega) (by omega)
        rw [e1, show 1 + 15 + 5 * i = 16 + 5 * i by omega, fr_i f2 (by simp), p1 2 (by omega)]
        exact b2
      · rw [folF_four hr5, show 1 + 15 + 5 * i = 16 + 5 * i by omega, fr_i f2 (by simp), p2]
      · have e1 : ro (folF σ i α 0) i 10 = ro σ i 10 := folF_own hr5 (k := 10) (by omega) (by omega) (by omega)
        rw [e1, hlow 0 (by omega), show 1 + 15 + 5 * i = 16 + 5 * i by omega, fr_i f2 (by simp), p1 4 (by omega)]
        exact b4
      · have e1 := folF_own (σ := σ) (α := α) (n := 0) hr5 (k := 5 + k) (by omega) (by omega) (by omega)
        rw [show ((5 + k : Nat) : Int) = 5 + (k : Int) by omega] at e1
        rw [e1, show 1 + 19 + 5 * i = 20 + 5 * i by omega, fr_i fN (hn1 _ (by omega) (by omega) (by omega) (by omega))]
        exact b5 k hk
    · have hb := RB_fr (W4 i hi) fN (fun a c1 c2 => hn1 a (by omega) (by omega) (by omega) (by omega))
      exact RB_SR (fun k hk => hlow k (by omega)) hwl (fun k hk => folF_other (by omega) hr5 (by omega) h hk) (hRF i hi).1.1.2 hb
  · rw [hlow 7 (by omega)] at hj
    have hi : ∀ k : Nat, k < 9 → it (folF σ r α 0) j k = if ro σ r 4 = j ∧ k = 4 then 0 else if ro σ r 4 = j ∧ k = 6 then -1 else it σ j k := fun k hk => folF_it (by omega) hr5 h4r.1 hk
    have hT5 := W5 j hj
    by_cases h : ro σ r 4 = j
    · have etj : t = j := by omega
      subst etj
      have hv : ∀ k, iv N2 (41 + t) k = if k = 5 ∨ k = 6 then 0 else if k = 7 then -1 else iv M (41 + t) k := fun k => by
        rw [fr_i f2 (by simp; omega), p3]
        by_cases c1 : k = 5 ∨ k = 6
        · rw [if_pos ⟨by omega, c1⟩, if_pos c1]
        · rw [if_neg (fun q => c1 q.2), if_neg c1]
          by_cases c2 : k = 7
          · rw [if_pos ⟨by omega, c2⟩, if_pos c2]
          · rw [if_neg (fun q => c2 q.2), if_neg c2]
      have hM := (TB_iff (w := 1) (N := M) (fun k => it σ t k) (fun k _ => rfl)).mp hT5
      refine (TB_iff (w := 1) (fun k => if k = 4 then 0 else if k = 6 then -1 else it σ t k) (fun k hk => ?_)).mpr ?_
      · rw [hi k hk]
        by_cases c4 : k = 4
        · rw [if_pos ⟨h, c4⟩, if_pos c4]
        · rw [if_neg (fun q => c4 q.2), if_neg c4]
          by_cases c6 : k = 6
          · rw [if_pos ⟨h, c6⟩, if_pos c6]
          · rw [if_neg (fun q => c6 q.2), if_neg c6]
      · rw [show 1 + 40 + t = 41 + t by omega] at hM ⊢
        obtain ⟨⟨m0, m1, m2, m3⟩, m4, m5, m6, m7, m8⟩ := hM
        simp only [hv]
        exact ⟨⟨m0, m1, m2, m3⟩, m4, rfl, rfl, rfl, m8⟩
    · have hsame : ∀ k, iv N2 (1 + 40 + j) k = iv M (1 + 40 + j) k := fun k => by
        by_cases c : j = t
        · subst c
          rw [show 1 + 40 + j = 41 + j by omega, fr_i f2 (by simp; omega), p3, if_neg (by omega), if_neg (by omega)]
        · exact fr_i fN (hn1 _ (by omega) (by omega) (by omega) (by omega)) k
      have hM : TB σ 1 j N2 := by
        unfold TB at hT5 ⊢
        simp only [hsame]
        exact hT5
      have hM2 := (TB_iff (w := 1) (fun k => it σ j k) (fun k _ => rfl)).mp hM
      exact (TB_iff (w := 1) (fun k => it σ j k) (fun k hk => by rw [hi k hk, if_neg (fun q => h q.1), if_neg (fun q => h q.1)])).mpr hM2
theorem LG_rest {σ : Nat → Int} (hO : OK σ) {r : Nat} (hr : (r : Int) < σ 6) {α : Nat → Int} (h : ∀ t : Nat, t ≤ 30 → fre σ r (-1) (ro σ r 0) t) : LG σ r (-1) (ro σ r 0) α 0 := ⟨ro_cell (hO.2.2.2.2.2.1 r hr).1, fun k hk => by omega, by show (0 : Nat) ≤ 30; omega, fun t _ ht => h t ht⟩
theorem wait_iff {σ : Nat → Int} (hO : OK σ) {r : Nat} (hr : (r : Int) < σ 6) (h3 : ro σ r 3 = 0) : (∀ t : Nat, 0 ≤ t → t ≤ 30 → fre σ r (-1) (ro σ r 0) t) ↔ ¬ met σ (ro σ r 0) r := by
  have hRF := hO.2.2.2.2.2.1 r hr
  have hc := ro_cell hRF.1
  have hw : σ (8 + ro σ r 0).toNat ≠ 1 := by
    have := hRF.2.1 0 (by rw [fp_zero h3]; exact hc.1)
    rw [fp_zero h3] at this
    exact this
  constructor
  · rintro h ⟨o, ho, hne, t, ht, e⟩
    exact (h t (by omega) ht).2 o ho ⟨hne, by omega⟩ e
  · intro h t _ ht
    exact ⟨hw, fun o ho ht2 e => h ⟨o, ho, ht2.1, t, ht, e⟩⟩
theorem cs_cancel {M : am_M} (hI : INV M) (a : Int32) : CS (g_L_cancel a M) (g_X10_cancel a) := by
  obtain ⟨x, rfl, hx1, hx2⟩ := pi_cast a
  have hO := hI.1
  have hW := hI.2.1
  have h6 := hO.2.2.1
  have g0 := s_demandRobot (x := x) (M := M) hx1 hx2
  rw [hW.2.1.1] at g0
  by_cases c : 0 ≤ x ∧ x < sg M 6
  · obtain ⟨r, rfl⟩ : ∃ r : Nat, x = r := ⟨x.toNat, by omega⟩
    rw [if_pos c] at g0
    have hr5 : r < 5 := by omega
    have hRF := hO.2.2.2.2.2.1 r c.2
    have g1 := s_demandOutsideLift hW hO c.2
    by_cases hl : 0 < ro (sg M) r 3
    · rw [if_pos hl] at g1
      refine CS_no1 (k := 2) (v := 0) hI ?_ ?_ (by omega)
      · unfold g_L_cancel g_X9_cancel
        rw [g0, am_bx_inl, g1, am_bx_inr]
        rfl
      · unfold g_X10_cancel
        rw [show am_s M 174 0 (0 : Int32) = am_s M 174 0 (pI 0) from rfl, mrob_t (σ := sg M) sg_t hO c, am_b_some, if_neg ci1, mlift_t (σ := sg M) sg_t hr5 hl, am_b_some, if_neg ci1]
        rfl
    · rw [if_neg hl] at g1
      have h3 : ro (sg M) r 3 = 0 := by have := hRF.1.2.2.2.1; omega
      have hcell := ro_cell hRF.1
      have hp := s_place0 hW hO c.2
      rw [fp_zero h3] at hp
      have hmet := s_isMet (c := ro (sg M) r 0) (but := r) hW hO (by omega) (by omega)
      have c4 : am_g M 1 4 = pI (sg M 0) := by rw [pi_g, hW.2.1.2.2]
      have hwi := wait_iff hO c.2 h3
      -- the model up to canWait
      have hmod : ∀ P, sg P = sg M → iv P 174 11 = -1 → ∃ N, fr [180, 181] (am_s P 174 0 (pI 0)) N ∧ g_X10_cancel (pI r) P = (if pI (b01 (¬ met (sg M) (ro (sg M) r 0) r)) = (0 : Int32) then (am_b (g_X10_fails (3 : Int32) N) (fun v24 M23 => (some (v24, M23)))) else (am_b (g_X10_ticksLeft (pI r) N) (fun v17 M16 => (am_b (g_X10_begins M16) (fun _ M19 => (am_b (g_X10_follows (pI r) M19) (fun _ M21 => (some (v17, M21))))))))) := fun P hP h11 => by
        have hs : sg (am_s P 174 0 (pI 0)) = sg M := sg_t.trans hP
        obtain ⟨N, g3, f3, p3⟩ := s_allForeseen (am_s P 174 0 (pI 0)) (by rw [hs]; omega) (by rw [hs]; omega) (by rw [hs]; exact fun o ho => (hO.2.2.2.2.2.1 o ho).1)
        rw [hs] at p3
        have hsN : sg N = sg M := (sg_fr f3 (by decide)).trans hs
        have hMS : MS (sg M) (-1) N := ⟨hsN, by rw [fr_i f3 (by decide), iv_b (by decide)]; exact h11, h6, fun o t ho ht => p3 o t ho ht⟩
        have gw := s_canWait (r := (r : Int)) (c := ro (sg M) r 0) (f := 0) (t := 30) hMS (by omega) hcell (by omega) (by omega)
        rw [b01_iff (hwi)] at gw
        refine ⟨N, f3, ?_⟩
        unfold g_X10_cancel
        have g7 : g_X10_of (pI r) (0 : Int32) N = some (pI (ro (sg M) r 0), N) := mof hsN (r := r) (w := 0) hr5 (by omega)
        rw [show am_s P 174 0 (0 : Int32) = am_s P 174 0 (pI 0) from rfl, mrob_t (σ := sg M) hs hO c, am_b_some, if_neg ci1, mlift_f (σ := sg M) hs hr5 hl, am_b_some, if_pos ci0, g3, am_b_some, g7, am_b_some]
        refine (congrArg (fun z => am_b z _) gw).trans ?_
        rw [am_b_some]
      by_cases hm : met (sg M) (ro (sg M) r 0) r
      · obtain ⟨N, f3, g5⟩ := hmod M rfl hI.2.2.1
        rw [b01_f (fun q => q hm), if_pos ci0] at g5
        have hIN : INV N := INV_fr (INV_thrown hI _) f3 (by decide)
        refine CS_no (M := M) (k := 3) (P := M) (Q := am_s N 174 0 (pI 3)) (v := 0) ?_ ?_ (thr_s (by omega) (by omega)) (by decide) (INV_thrown hIN _)
        · unfold g_L_cancel g_X9_cancel
          rw [b01_t hm] at hmet
          rw [g0, am_bx_inl, g1, am_bx_inl, s_robotOf M hr5, am_b_some, show 1 + 15 + 5 * r + 1 = 17 + 5 * r by omega, c4, hp, am_b_some, hmet, am_b_some, if_neg ci1]
          rfl
        · rw [g5]
          rfl
      · have b1 := (hW.2.2.2.1 r c.2).1
        rw [show 1 + 16 + 5 * r = 17 + 5 * r by omega] at b1
        obtain ⟨N1, N, g2, e14, g3, _, fN, hWN⟩ := s_rest (α := fun _ => 0) hW hO c.2 h3
        obtain ⟨T, eT⟩ : ∃ T, T = pk (sg M) r (ro (sg M) r 2).toNat - ro (sg M) r 3 := ⟨_, rfl⟩
        have h4b : (ro (sg M) r 4).toNat < 12 := by have := hRF.2.2.2.1; have := hO.2.2.2.1; omega
        obtain ⟨P, eP⟩ : ∃ P, P = am_ls N 186 0 (pI T).toInt64 := ⟨_, rfl⟩
        have hsN : sg N = sg M := sg_fr fN (by simp; omega)
        have hsP : sg P = sg M := by rw [eP]; exact hsN
        have h11P : iv P 174 11 = -1 := by
          rw [eP]
          show iv N 174 11 = -1
          rw [fr_i fN (by simp; omega)]
          exact hI.2.2.1
        obtain ⟨R, f3, g5⟩ := hmod P hsP h11P
        rw [b01_t (show ¬ met (sg M) (ro (sg M) r 0) r from hm), if_neg ci1] at g5
        have hsR : sg R = sg M := (sg_fr f3 (by decide)).trans (sg_t.trans hsP)
        obtain ⟨R2, eR2⟩ : ∃ R2, R2 = am_s (am_s (am_s R 174 15 (pI 0)) 174 16 (pI 0)) 174 17 (pI 0) := ⟨_, rfl⟩
        have fR2 : fr [174] R R2 := by rw [eR2]; exact fr_trans (fr_s (by simp)) (fr_trans (fr_s (by simp)) (fr_s (by simp)))
        have hsR2 : sg R2 = sg M := (sg_fr fR2 (by decide)).trans hsR
        have r15 : iv R2 174 15 = ((0 : Nat) : Int) := by rw [eR2, iv_b (by decide), iv_b (by decide), iv_a (by omega) (by omega)]; rfl
        have rk : ∀ k, k ≠ 15 → k ≠ 16 → k ≠ 17 → iv R2 174 k = iv R 174 k := fun k h1 h2 h3 => by rw [eR2, iv_b h3, iv_b h2, iv_b h1]
        obtain ⟨Q, g6, f6, eQ⟩ := s_follows (r := r) (α := fun _ => 0) (n := 0) hsR2 hr5 (by have := hRF.2.2.2.1; have := hO.2.2.2.1; omega) (by omega) r15 (fun j hj => by omega)
        have fPQ : fr [174, 175, 180, 181] P Q := fr_trans (N := am_s P 174 0 (pI 0)) (fr_s (by simp)) (fr_trans (fr_mono f3 (by simp)) (fr_trans (fr_mono fR2 (by simp)) (fr_mono f6 (by simp))))
        have fNQ : fr [174, 175, 180, 181, 186] N Q := fr_trans (N := P) (by rw [eP]; exact fr_ls (by simp)) (fr_mono fPQ (by simp))
        have hOQ : OK (sg Q) := by
          rw [eQ]
          exact OK_fol hO c.2 h3 (by omega) (LG_rest hO c.2 (fun t ht => hwi.mpr hm t (by omega) ht))
        have hWQ : WD (sg Q) 1 Q := by
          rw [eQ]
          exact WD_fr hWN (by rw [folF_low (by omega)]; omega) (by rw [folF_low (by omega)]; exact hO.2.2.2.1.2) fNQ (by intro z z1 z2 z3; simp at z3; omega)
        have hk : ∀ k, k = 4 ∨ k = 7 ∨ k = 8 ∨ k = 11 → iv Q 174 k = iv M 174 k := fun k hk => by
          rw [fr_i f6 (by simp), rk k (by omega) (by omega) (by omega), fr_i f3 (by decide), iv_b (by omega), eP]
          exact fr_i fN (by simp; omega) k
        have fMQ : fr KX M Q := fr_trans (fr_mono fN (fun z hz => mem_KX.mpr (by simp at hz; omega))) (fr_mono fNQ (by decide))
        have hIQ : INV Q := INV_set hI hOQ hWQ fMQ (hk 4 (by omega)) (hk 7 (by omega)) (hk 8 (by omega)) (hk 11 (by omega))
        refine CS_yes (O := N) (v := pI T) (Q := Q) ?_ ?_ ?_ ?_ hIQ
        · unfold g_L_cancel g_X9_cancel
          rw [b01_f hm] at hmet
          have c5 : am_g N1 1 4 = pI (sg M 0) := by rw [pi_g, e14]
          rw [g0, am_bx_inl, g1, am_bx_inl, s_robotOf M hr5, am_b_some, show 1 + 15 + 5 * r + 1 = 17 + 5 * r by omega, c4, hp, am_b_some, hmet, am_b_some, if_pos ci0, c4, s_ticksLeft b1 hRF.1 hO.1.2, am_b_some, ← eT, show 1 + 15 + 5 * r = 16 + 5 * r by omega, g2, am_b_some, c5, g3, am_b_some]
          rfl
        · rw [← eP, g5, s_mticksLeft hsR hRF.1 hr5, am_b_some, ← eT]
          unfold g_X10_begins
          rw [am_b_some]
          refine (congrArg (fun z => am_b z _) (show g_X10_follows (pI r) (am_s (am_s (am_s R 174 15 (0 : Int32)) 174 16 (0 : Int32)) 174 17 (0 : Int32)) = some ((), Q) from by
            rw [eR2] at g6
            exact g6)).trans ?_
          rfl
        · rw [fr_i f6 (by simp), rk 0 (by omega) (by omega) (by omega), fr_i f3 (by decide), iv_a (by omega) (by omega)]
        · rw [fr_l fPQ (by decide), eP]
  · rw [if_neg c] at g0
    refine CS_no1 (k := 1) (v := 0) hI ?_ ?_ (by omega)
    · unfold g_L_cancel g_X9_cancel
      rw [g0, am_bx_inr]
      rfl
    · unfold g_X10_cancel
      rw [mrob_f (σ := sg M) sg_t hO hx1 hx2 c, am_b_some, if_pos ci0]
      rfl
end RH
