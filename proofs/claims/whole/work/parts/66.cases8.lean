/-! the case sample -/
section RA
def cvF (σ : Nat → Int) (r : Nat) : Int := if 0 < ro σ r 3 then -1 else ro σ r 0
theorem cv_class {σ : Nat → Int} {r : Nat} (hw : wr σ r) : (if pI (fp σ r 0) < (-1 : Int32) then (-1 : Int32) else pI (fp σ r 0)) = pI (cvF σ r) := by
  have hcell := ro_cell hw
  have hlift := hw.2.2.2.2.1
  have h30 := hw.2.2.2.1
  unfold cvF
  have hrg := fp_rng hw 0
  by_cases q : 0 < ro σ r 3
  · have q2 := hlift q
    have q3 := fp_lift hw q
    rw [if_pos q]
    by_cases q5 : fp σ r 0 = -1
    · rw [q5]; rfl
    · rw [show fp σ r 0 = -2 by omega]; rfl
  · rw [if_neg q, fp_zero (by omega)]
    rw [if_neg (show ¬ (pI (ro σ r 0) < (-1 : Int32)) by show ¬ (pI _ < pI (-1)); rw [pi_lt (by omega) (by omega) (by omega) (by omega)]; omega)]
theorem s_store {q : Nat} {a b c d : Int} {M : am_M} (hq : q < 6) : g_X6_store (pI q) (pI a) (pI b) (pI c) (pI d) M = some ((), am_s (am_s (am_s (am_s (am_s M 167 q (pI 1)) 168 (4 * q) (pI a)) 168 (4 * q + 1) (pI b)) 168 (4 * q + 2) (pI c)) 168 (4 * q + 3) (pI d)) := by
  unfold g_X6_store
  have c0 : pI (q : Nat) * (4 : Int32) = pI (4 * (q : Int)) := by rw [show (4 : Int32) = pI 4 from rfl, pi_mul, show (q : Int) * 4 = 4 * q by omega]
  have c1 : pI (4 * (q : Int)) + (1 : Int32) = pI (4 * (q : Int) + 1) := by rw [show (1 : Int32) = pI 1 from rfl, pi_add]
  have c2 : pI (4 * (q : Int)) + (2 : Int32) = pI (4 * (q : Int) + 2) := by rw [show (2 : Int32) = pI 2 from rfl, pi_add]
  have c3 : pI (4 * (q : Int)) + (3 : Int32) = pI (4 * (q : Int) + 3) := by rw [show (3 : Int32) = pI 3 from rfl, pi_add]
  rw [c0, c1, c2, c3, s_put _ _ _ _ (by omega) (by omega) (by omega), am_b_some, s_put _ _ _ _ (by omega) (by omega) (by omega), am_b_some, s_put _ _ _ _ (by omega) (by omega) (by omega), am_b_some, s_put _ _ _ _ (by omega) (by omega) (by omega), am_b_some, s_put _ _ _ _ (by omega) (by omega) (by omega), am_b_some, Int.toNat_natCast, show (4 * (q : Int)).toNat = 4 * q by omega, show (4 * (q : Int) + 1).toNat = 4 * q + 1 by omega, show (4 * (q : Int) + 2).toNat = 4 * q + 2 by omega, show (4 * (q : Int) + 3).toNat = 4 * q + 3 by omega]
  rfl
theorem cs_sample {M : am_M} (hI : INV M) (a b e : Int32) : CS (g_L_sample a b e M) (g_X10_sample a b e) := by
  obtain ⟨x, rfl, hx1, hx2⟩ := pi_cast a
  obtain ⟨y, rfl, hy1, hy2⟩ := pi_cast b
  obtain ⟨z, rfl, hz1, hz2⟩ := pi_cast e
  have hO := hI.1
  have h6 := hO.2.2.1
  have hW := hI.2.1
  have g0 := s_demandPlace (M := M) hx1 hx2 hy1 hy2
  have g1 := s_demandRobot (x := z) (M := M) hz1 hz2
  rw [hW.2.1.1] at g1
  by_cases c : (0 ≤ x ∧ x ≤ 1) ∧ (0 ≤ y ∧ y ≤ 2)
  · rw [if_pos c] at g0
    by_cases cz : 0 ≤ z ∧ z < sg M 6
    · obtain ⟨r, rfl⟩ : ∃ r : Nat, z = r := ⟨z.toNat, by omega⟩
      obtain ⟨s, rfl⟩ : ∃ s : Nat, x = s := ⟨x.toNat, by omega⟩
      rw [if_pos cz] at g1
      have hw := (hO.2.2.2.2.2.1 r cz.2).1
      have hcell := ro_cell hw
      have hcv : -1 ≤ cvF (sg M) r ∧ cvF (sg M) r < 40 := by unfold cvF; split <;> omega
      have gi := s_isIdle hW hO cz.2
      obtain ⟨q, eq⟩ : ∃ q : Nat, (q : Int) = 3 * s + y := ⟨(3 * s + y).toNat, by omega⟩
      obtain ⟨bt, ebt⟩ : ∃ bt, bt = ro (sg M) r 1 := ⟨_, rfl⟩
      have hbt : iv M (16 + 5 * r) 2 = bt := by
        have := (hW.2.2.2.1 r cz.2).2.1
        rw [show 1 + 15 + 5 * r = 16 + 5 * r by omega] at this
        rw [ebt]; exact this
      have hbr := iv_rng M (16 + 5 * r) 2
      rw [hbt] at hbr
      have c4 : am_g M 1 4 = pI (sg M 0) := by rw [pi_g, hW.2.1.2.2]
      have hC := hO.1
      obtain ⟨N, eN⟩ : ∃ N, N = am_s (am_s (am_s (am_s (am_s M 167 q (pI 1)) 168 (4 * q) (pI r)) 168 (4 * q + 1) (pI (cvF (sg M) r))) 168 (4 * q + 2) (pI bt)) 168 (4 * q + 3) (pI (sg M 0)) := ⟨_, rfl⟩
      have fN : fr [167, 168] M N := by rw [eN]; exact fr_trans (fr_s (by simp)) (fr_trans (fr_s (by simp)) (fr_trans (fr_s (by simp)) (fr_trans (fr_s (by simp)) (fr_s (by simp)))))
      have n167 : ∀ k, iv N 167 k = if k = q then 1 else iv M 167 k := fun k => by
        rw [eN, iv_c (by decide), iv_c (by decide), iv_c (by decide), iv_c (by decide), iv_s (by omega) (by omega)]
        by_cases h : k = q
        · rw [if_pos ⟨rfl, h⟩, if_pos h]
        · rw [if_neg (fun w => h w.2), if_neg h]
      have n168 : iv N 168 (4 * q) = r ∧ iv N 168 (4 * q + 1) = cvF (sg M) r ∧ iv N 168 (4 * q + 2) = bt ∧ iv N 168 (4 * q + 3) = sg M 0 := by
        rw [eN]
        refine ⟨?_, ?_, ?_, ?_⟩
        · rw [iv_b (by omega), iv_b (by omega), iv_b (by omega), iv_a (by omega) (by omega)]
        · rw [iv_b (by omega), iv_b (by omega), iv_a (by omega) (by omega)]
        · rw [iv_b (by omega), iv_a hbr.1 hbr.2]
        · rw [iv_a (by omega) (by omega)]
      have n168o : ∀ k, k < 4 * q ∨ 4 * q + 4 ≤ k → iv N 168 k = iv M 168 k := fun k hk => by
        rw [eN, iv_b (by omega), iv_b (by omega), iv_b (by omega), iv_b (by omega), iv_c (by decide)]
      have h01 : ∀ k, k < 6 → 0 ≤ iv N 167 k ∧ iv N 167 k ≤ 1 := fun k hk => by
        rw [n167]
        split
        · omega
        · rcases hI.2.2.2.2.1 k hk with w | w <;> omega
      obtain ⟨H, eH⟩ : ∃ H, H = s3 (fun k => iv N 167 (3 * s + k)) 3 := ⟨_, rfl⟩
      have gh : g_X6_held (pI s) N = some (pI H, N) := by rw [eH]; exact s_held (by omega) h01
      have ctail : am_b (g_X8_robotOf 1 (pI r) M) (fun v9 M8 => (am_b (g_X2_placeAt (v9 + 1) (am_g M8 1 4) M8) (fun v12 M11 => (am_b (g_X6_store ((pI s * (3 : Int32)) + pI y) (pI r) (if v12 < (-1 : Int32) then (-1 : Int32) else v12) (am_g M11 v9 2) (am_g M11 1 4) M11) (fun _ M14 => (am_b (g_X6_held (pI s) M14) (fun v17 M16 => (some ((.inl v17 : Int32 ⊕ Nat), M16))))))))) = some (.inl (pI H), N) := by
        have c1 : pI (s : Nat) * (3 : Int32) + pI y = pI (q : Nat) := by rw [show (3 : Int32) = pI 3 from rfl, pi_mul, pi_add, show (s : Int) * 3 + y = (q : Int) by omega]
        have c2 : am_g M (16 + 5 * r) 2 = pI bt := by rw [pi_g, hbt]
        rw [s_robotOf M (by omega), am_b_some, show 1 + 15 + 5 * r = 16 + 5 * r by omega, show 16 + 5 * r + 1 = 17 + 5 * r by omega, c4, s_place0 hW hO cz.2, am_b_some, cv_class hw, c1, c2, c4, s_store (q := q) (by omega), am_b_some, ← eN, gh, am_b_some]
      obtain ⟨P, eP⟩ : ∃ P, P = am_s (am_ls N 186 0 (pI H).toInt64) 174 0 (pI 0) := ⟨_, rfl⟩
      have hsN : sg N = sg M := sg_fr fN (by decide)
      have hsP : sg P = sg M := by rw [eP]; exact sg_t.trans (show sg (am_ls N 186 0 (pI H).toInt64) = sg M from hsN)
      obtain ⟨Q, eQ⟩ : ∃ Q, Q = am_s (am_s (am_s (am_s P 178 (4 * q) (pI r)) 178 (4 * q + 1) (pI (cvF (sg M) r))) 178 (4 * q + 2) (pI bt)) 178 (4 * q + 3) (pI (sg M 0)) := ⟨_, rfl⟩
      have fPQ : fr [178] P Q := by rw [eQ]; exact fr_trans (fr_s (by simp)) (fr_trans (fr_s (by simp)) (fr_trans (fr_s (by simp)) (fr_s (by simp))))
      have fNP : fr [174, 186] N P := by
        rw [eP]
        exact fr_trans (N := am_ls N 186 0 (pI H).toInt64) (fr_ls (by simp)) (fr_s (by simp))
      have fMQ : fr [167, 168, 174, 178, 186] M Q := fr_trans (fr_mono fN (by simp)) (fr_trans (fr_mono fNP (by simp)) (fr_mono fPQ (by simp)))
      have q178 : iv Q 178 (4 * q) = r ∧ iv Q 178 (4 * q + 1) = cvF (sg M) r ∧ iv Q 178 (4 * q + 2) = bt ∧ iv Q 178 (4 * q + 3) = sg M 0 := by
        rw [eQ]
        refine ⟨?_, ?_, ?_, ?_⟩
        · rw [iv_b (by omega), iv_b (by omega), iv_b (by omega), iv_a (by omega) (by omega)]
        · rw [iv_b (by omega), iv_b (by omega), iv_a (by omega) (by omega)]
        · rw [iv_b (by omega), iv_a hbr.1 hbr.2]
        · rw [iv_a (by omega) (by omega)]
      have q178o : ∀ k, k < 4 * q ∨ 4 * q + 4 ≤ k → iv Q 178 k = iv M 178 k := fun k hk => by
        rw [eQ, iv_b (by omega), iv_b (by omega), iv_b (by omega), iv_b (by omega), fr_i fNP (by decide), fr_i fN (by decide)]
      have h174 : ∀ i, i ≠ 0 → iv Q 174 i = iv M 174 i := fun i h0 => by
        rw [fr_i fPQ (by decide), eP, iv_b h0]
        exact fr_i fN (by decide) i
      have hISh : ISh Q := fun k hk => by
        rw [fr_i fPQ (a := 167) (by decide), fr_i fNP (a := 167) (by decide), n167]
        by_cases h : k = q
        · subst h
          right
          rw [if_pos rfl]
          refine ⟨rfl, by rw [q178.1]; omega, fun i hi => ?_⟩
          rw [fr_i fPQ (by decide), fr_i fNP (by decide)]
          rcases (by omega : i = 0 ∨ i = 1 ∨ i = 2 ∨ i = 3) with rfl | rfl | rfl | rfl
          · rw [Nat.add_zero, n168.1, q178.1]
          · rw [n168.2.1, q178.2.1]
          · rw [n168.2.2.1, q178.2.2.1]
          · rw [n168.2.2.2, q178.2.2.2]
        · rw [if_neg h, q178o _ (by omega)]
          rcases hI.2.2.2.2.1 k hk with w | ⟨w1, w2, w3⟩
          · exact Or.inl w
          · refine Or.inr ⟨w1, w2, fun i hi => ?_⟩
            rw [q178o _ (by omega), fr_i fPQ (by decide), fr_i fNP (by decide), n168o _ (by omega)]
            exact w3 i hi
      have hIQ : INV Q := by
        have hsg : sg Q = sg M := sg_fr fMQ (by decide)
        refine ⟨by rw [hsg]; exact hO, by rw [hsg]; exact WD_fr hW hO.2.2.1.2 hO.2.2.2.1.2 fMQ (by intro z z1 z2 z3; simp at z3; omega), ?_, ?_, hISh, ?_, ?_⟩
        · rw [h174 11 (by decide)]; exact hI.2.2.1
        · exact SVd_fr hI.2.2.2.1 fMQ (by decide) (by decide) (by intro z z1 z2 z3; simp at z3; omega) (h174 4 (by decide))
        · have := hI.2.2.2.2.2.1
          unfold ITx at this ⊢
          rw [h174 7 (by decide), fr_i fMQ (a := 169) (by decide)]
          exact ⟨this.1, this.2.1, fun i hi => by rw [fr_i fMQ (by decide), fr_i fMQ (by decide)]; exact this.2.2 i hi⟩
        · have := hI.2.2.2.2.2.2
          unfold IEr at this ⊢
          rw [h174 8 (by decide), fr_i fMQ (a := 0) (by decide)]
          exact this
      have hH : s3 (fun k => if iv Q 178 (4 * (3 * s + k)) = -1 then 0 else 1) 3 = H := by
        rw [eH]
        refine s3_congr (fun k hk => ?_)
        have hk6 : 3 * s + k < 6 := by omega
        have e167 : iv N 167 (3 * s + k) = iv Q 167 (3 * s + k) := by rw [fr_i fPQ (by decide), fr_i fNP (by decide)]
        rw [e167]
        rcases hISh (3 * s + k) hk6 with ⟨w1, w2⟩ | ⟨w1, w2, _⟩
        · rw [if_pos w2, w1]
        · rw [if_neg w2, w1]
      have mtail : g_X10_sample_J45 (pI s) (pI y) (pI r) P = some (pI H, Q) := by
        have c2 : (12 : Int32) * pI (s : Nat) + (4 : Int32) * pI y = pI (4 * (q : Int)) := by rw [show (12 : Int32) = pI 12 from rfl, show (4 : Int32) = pI 4 from rfl, pi_mul, pi_mul, pi_add, show 12 * (s : Int) + 4 * y = 4 * (q : Int) by omega]
        have d1 : pI (4 * (q : Int)) + (1 : Int32) = pI (4 * (q : Int) + 1) := by rw [show (1 : Int32) = pI 1 from rfl, pi_add]
        have d2 : pI (4 * (q : Int)) + (2 : Int32) = pI (4 * (q : Int) + 2) := by rw [show (2 : Int32) = pI 2 from rfl, pi_add]
        have d3 : pI (4 * (q : Int)) + (3 : Int32) = pI (4 * (q : Int) + 3) := by rw [show (3 : Int32) = pI 3 from rfl, pi_add]
        have hs1 : sg (am_s P 178 (4 * q) (pI r)) = sg M := (sg_s (by decide)).trans hsP
        have hJ : g_X10_sample_J89 (pI s) (pI r) (pI (4 * (q : Int))) (pI (4 * (q : Int) + 1)) (pI (cvF (sg M) r)) (am_s P 178 (4 * q) (pI r)) = some (pI H, Q) := by
          unfold g_X10_sample_J89
          have hs2 : sg (am_s (am_s P 178 (4 * q) (pI r)) 178 (4 * q + 1) (pI (cvF (sg M) r))) = sg M := (sg_s (by decide)).trans hs1
          have gb : g_X10_of (pI r) (1 : Int32) (am_s (am_s P 178 (4 * q) (pI r)) 178 (4 * q + 1) (pI (cvF (sg M) r))) = some (pI bt, am_s (am_s P 178 (4 * q) (pI r)) 178 (4 * q + 1) (pI (cvF (sg M) r))) := by
            rw [ebt]
            exact mof hs2 (r := r) (w := 1) (by omega) (by omega)
          have g175 : am_g (am_s (am_s (am_s P 178 (4 * q) (pI r)) 178 (4 * q + 1) (pI (cvF (sg M) r))) 178 (4 * q + 2) (pI bt)) 175 (0 : Int32).toNatClampNeg = pI (sg M 0) := by
            show am_g _ 175 0 = _
            rw [pi_g, iv_c (by decide), iv_c (by decide), iv_c (by decide), show iv P 175 0 = sg M 0 from congrFun hsP 0]
          rw [pi_ci (by omega) (by omega) (by omega), pi_cn (by omega) (by omega), show (4 * (q : Int) + 1).toNat = 4 * q + 1 by omega, gb, am_b_some, d2, pi_ci (by omega) (by omega) (by omega), aci _ _ _ (by decide), d3, pi_ci (by omega) (by omega) (by omega), pi_cn (by omega) (by omega), pi_cn (by omega) (by omega), show (4 * (q : Int) + 2).toNat = 4 * q + 2 by omega, show (4 * (q : Int) + 3).toNat = 4 * q + 3 by omega, g175, ← eQ, s_mheld (by omega), am_b_some, hH]
        unfold g_X10_sample_J45
        rw [c2, pi_ci (by omega) (by omega) (by omega), pi_cn (by omega) (by omega), show (4 * (q : Int)).toNat = 4 * q by omega, d1]
        by_cases hl : 0 < ro (sg M) r 3
        · rw [mlift_t hs1 (by omega) hl, am_b_some, if_neg ci1]
          have : cvF (sg M) r = -1 := by unfold cvF; rw [if_pos hl]
          rw [this] at hJ
          exact hJ
        · have g0 : g_X10_of (pI r) (0 : Int32) (am_s P 178 (4 * q) (pI r)) = some (pI (cvF (sg M) r), am_s P 178 (4 * q) (pI r)) := by
            have : cvF (sg M) r = ro (sg M) r 0 := by unfold cvF; rw [if_neg hl]
            rw [this]
            exact mof hs1 (r := r) (w := 0) (by omega) (by omega)
          rw [mlift_f hs1 (by omega) hl, am_b_some, if_pos ci0, g0, am_b_some]
          exact hJ
      have hyes : (s = 0 → ro (sg M) r 2 = 0) → CS (g_L_sample (pI s) (pI y) (pI r) M) (g_X10_sample (pI s) (pI y) (pI r)) := fun hs => by
        refine CS_yes (O := N) (v := pI H) (Q := Q) ?_ ?_ ?_ ?_ hIQ
        · unfold g_L_sample g_X9_sample
          rw [g0, am_bx_inl, g1, am_bx_inl]
          by_cases h0 : s = 0
          · subst h0
            rw [if_pos (show pI ((0 : Nat) : Int) = (0 : Int32) from rfl), gi, am_b_some, if_pos (hs rfl), if_neg ci1, ctail]
            rfl
          · rw [if_neg (show ¬ (pI (s : Nat) = (0 : Int32)) from fun w => by have := (pi_eq (a := s) (b := 0) (by omega) (by omega) (by omega) (by omega)).mp w; omega), ctail]
            rfl
        · unfold g_X10_sample
          rw [show am_s (am_ls N 186 0 (pI H).toInt64) 174 0 (0 : Int32) = P from eP.symm, s_isPlace_t c, am_b_some, if_neg ci1, mrob_t hsP hO cz, am_b_some, if_neg ci1]
          by_cases h0 : s = 0
          · subst h0
            rw [if_pos (show pI ((0 : Nat) : Int) = (0 : Int32) from rfl), s_misIdle hsP hw (by omega), am_b_some, if_pos (hs rfl), if_neg ci1, mtail]
          · rw [if_neg (show ¬ (pI (s : Nat) = (0 : Int32)) from fun w => by have := (pi_eq (a := s) (b := 0) (by omega) (by omega) (by omega) (by omega)).mp w; omega), mtail]
        · rw [fr_i fPQ (by decide), eP, iv_a (by omega) (by omega)]
        · rw [fr_l fPQ (by decide), eP]; rfl
      by_cases hs : s = 0 ∧ ro (sg M) r 2 ≠ 0
      · obtain ⟨rfl, hs2⟩ := hs
        refine CS_no1 (k := 2) (v := 0) hI ?_ ?_ (by omega)
        · unfold g_L_sample g_X9_sample
          rw [g0, am_bx_inl, g1, am_bx_inl, if_pos (show pI ((0 : Nat) : Int) = (0 : Int32) from rfl), gi, am_b_some, if_neg hs2, if_pos ci0]
          rfl
        · unfold g_X10_sample
          rw [show am_s M 174 0 (0 : Int32) = am_s M 174 0 (pI 0) from rfl, s_isPlace_t c, am_b_some, if_neg ci1, mrob_t (σ := sg M) sg_t hO cz, am_b_some, if_neg ci1, if_pos (show pI ((0 : Nat) : Int) = (0 : Int32) from rfl), s_misIdle (σ := sg M) sg_t hw (by omega), am_b_some, if_neg hs2, if_pos ci0]
          rfl
      · exact hyes (fun h0 => by
          by_cases h2 : ro (sg M) r 2 = 0
          · exact h2
          · exact absurd ⟨h0, h2⟩ hs)
    · rw [if_neg cz] at g1
      refine CS_no1 (k := 1) (v := 0) hI ?_ ?_ (by omega)
      · unfold g_L_sample g_X9_sample
        rw [g0, am_bx_inl, g1, am_bx_inr]
        rfl
      · unfold g_X10_sample
        rw [show am_s M 174 0 (0 : Int32) = am_s M 174 0 (pI 0) from rfl, s_isPlace_t c, am_b_some, if_neg ci1, mrob_f (σ := sg M) sg_t hO hz1 hz2 cz, am_b_some, if_pos ci0]
        rfl
  · rw [if_neg c] at g0
    refine CS_no1 (k := 1) (v := 0) hI ?_ ?_ (by omega)
    · unfold g_L_sample g_X9_sample
      rw [g0, am_bx_inr]
      rfl
    · unfold g_X10_sample
      rw [show am_s M 174 0 (0 : Int32) = am_s M 174 0 (pI 0) from rfl, s_isPlace_f hx1 hx2 hy1 hy2 c, am_b_some, if_pos ci0]
      rfl
end RA
