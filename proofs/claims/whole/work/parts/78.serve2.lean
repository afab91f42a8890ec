/-! how a task would be served, by the class -/
section RM
/-- a list that goes on with zeros -/
def zl (α : Nat → Int) (n1 : Nat) : Nat → Int := fun k => if k < n1 then α k else 0
theorem zl_zero {α : Nat → Int} {n1 z : Nat} : ∀ k, n1 ≤ k → k < n1 + z → zl α n1 k = 0 := fun k h _ => by
  unfold zl
  rw [if_neg (by omega)]
theorem zl_low {α : Nat → Int} {n1 : Nat} : ∀ k, k < n1 → α k = zl α n1 k := fun k h => by
  unfold zl
  rw [if_pos h]
theorem s_waits {σ : Nat → Int} {r n1 F e1 z : Nat} {c0 rl : Int} {α : Nat → Int} {M : am_M} (hFM : FM σ r (-1) M) (hF : F < 40) (hn : n1 ≤ e1) (hR : RW σ 158 c0 α n1 M) (hlt : lt α n1 = e1) (hlc : lc σ c0 α n1 = F) (hrl : rl = ((e1 + z : Nat) : Int) ∨ (z = 0 ∧ rl ≤ e1 ∧ -2000 ≤ rl)) (h30 : e1 + z ≤ 30) : (∃ N, g_X3_waitUntil_L37 (pI rl) (pI (F : Nat)) am_fu (pI ((e1 : Int) + 1)) M = some (73, N) ∧ fr [158, 159, 160] M N ∧ (∀ k, k ≠ 3 → k ≠ 4 → iv N 158 k = iv M 158 k) ∧ RW σ 158 c0 (zl α n1) (n1 + z) N ∧ ∀ t : Nat, e1 < t → t ≤ e1 + z → fre σ r (-1) F t) ∨ ∃ N, g_X3_waitUntil_L37 (pI rl) (pI (F : Nat)) am_fu (pI ((e1 : Int) + 1)) M = some (56, N) ∧ fr [158, 159, 160] M N ∧ ∃ t : Nat, e1 < t ∧ t ≤ e1 + z ∧ ¬ fre σ r (-1) F t := by
  obtain ⟨x, g1, hx⟩ := lo_for (fun m (s : Int32 × am_M) => g_X3_waitUntil_L37 (pI rl) (pI (F : Nat)) m s.1 s.2) (fun q s => s.1 = pI ((e1 : Int) + 1 + q) ∧ fr [158, 159, 160] M s.2 ∧ (∀ k, k ≠ 3 → k ≠ 4 → iv s.2 158 k = iv M 158 k) ∧ RW σ 158 c0 (zl α n1) (n1 + q) s.2 ∧ ∀ t : Nat, e1 < t → t ≤ e1 + q → fre σ r (-1) F t) (fun x => (∃ N, x = (73, N) ∧ fr [158, 159, 160] M N ∧ (∀ k, k ≠ 3 → k ≠ 4 → iv N 158 k = iv M 158 k) ∧ RW σ 158 c0 (zl α n1) (n1 + z) N ∧ ∀ t : Nat, e1 < t → t ≤ e1 + z → fre σ r (-1) F t) ∨ ∃ N, x = (56, N) ∧ fr [158, 159, 160] M N ∧ ∃ t : Nat, e1 < t ∧ t ≤ e1 + z ∧ ¬ fre σ r (-1) F t) 0 z (pI ((e1 : Int) + 1), M) ⟨by rw [show (e1 : Int) + 1 + ((0 : Nat) : Int) = (e1 : Int) + 1 by omega], fr_refl _ _, fun k _ _ => rfl, RW_congr zl_low hR, fun t h1 h2 => by omega⟩ (by omega) (by unfold am_fu; omega) (by
    rintro m q ⟨b, N⟩ hq ⟨e, hf, hk, hRq, hfre⟩
    dsimp only at e hf hk hRq hfre
    subst e
    have hFN := FM_fr hFM hf (by decide) (by decide)
    have hlz : lt (zl α n1) (n1 + q) = e1 + q := by rw [lt_zeros zl_zero, ← lt_congr zl_low, hlt]
    have hcz : lc σ c0 (zl α n1) (n1 + q) = F := by rw [lc_zeros zl_zero, ← lc_congr zl_low, hlc]
    have ha : zl α n1 (n1 + q) = 0 := zl_zero (z := q + 1) (n1 + q) (by omega) (by omega)
    have hcl := s_isClosed (c := (F : Int)) (t := e1 + 1 + q) (M := N) (by omega) (by omega)
    rw [show ((e1 + 1 + q : Nat) : Int) = (e1 : Int) + 1 + q by omega] at hcl
    have hfm := hFN.1 (e1 + 1 + q) F (by omega) hF
    have cle : ¬ (pI rl < pI ((e1 : Int) + 1 + q)) := by rw [pi_lt (by omega) (by omega) (by omega) (by omega)]; omega
    dsimp only
    rw [g_X3_waitUntil_L37, if_neg cle, hcl, am_b_some]
    by_cases hp : pb (am_lg N 162 (e1 + 1 + q)) F = true
    · right
      rw [Int.toNat_natCast, b01_t hp, if_neg ci1]
      exact ⟨_, rfl, Or.inr ⟨N, rfl, hf, e1 + 1 + q, by omega, by omega, hfm.mp hp⟩⟩
    · left
      have hfr : fre σ r (-1) F (e1 + 1 + q) := by
        by_cases h : fre σ r (-1) F (e1 + 1 + q)
        · exact h
        · exact absurd (hfm.mpr h) hp
      have hlt2 : lt (zl α n1) (n1 + q + 1) = e1 + q + 1 := by rw [lt, hlz, ha, tk_zero]; rfl
      have hlc2 : lc σ c0 (zl α n1) (n1 + q + 1) = F := by rw [lc, hcz, ha, mvs_zero]
      obtain ⟨O, g3, f3, k3, R3⟩ := s_addAction (p := 158) (by omega) hRq (by rw [ha]; omega) (by rw [hlt2]; omega) (by rw [hlc2]; omega)
      rw [ha, hlc2] at g3
      refine ⟨(pI ((e1 : Int) + 1 + (q + 1 : Nat)), O), ?_, rfl, fr_trans hf f3, fun k h1 h2 => by rw [k3 k h1 h2, hk k h1 h2], R3, fun t t1 t2 => ?_⟩
      · rw [Int.toNat_natCast, b01_f hp, if_pos ci0]
        refine (congrArg (fun z => am_b z _) g3).trans ?_
        rw [am_b_some, show (1 : Int32) = pI 1 from rfl, pi_add, show (e1 : Int) + 1 + q + 1 = (e1 : Int) + 1 + (q + 1 : Nat) by omega]
      · by_cases h : t = e1 + 1 + q
        · rw [h]; exact hfr
        · exact hfre t t1 (by omega)) (by
    rintro m ⟨b, N⟩ ⟨e, hf, hk, hRq, hfre⟩
    dsimp only at e hf hk hRq hfre
    subst e
    refine ⟨(73, N), ?_, Or.inl ⟨N, rfl, hf, hk, hRq, hfre⟩⟩
    dsimp only
    rw [g_X3_waitUntil_L37, if_pos (show pI rl < pI ((e1 : Int) + 1 + z) by rw [pi_lt (by omega) (by omega) (by omega) (by omega)]; omega)])
  dsimp only at g1
  rcases hx with ⟨N, rfl, h1, h2, h3, h4⟩ | ⟨N, rfl, h1, h2⟩
  · exact Or.inl ⟨N, g1, h1, h2, h3, h4⟩
  · exact Or.inr ⟨N, g1, h1, h2⟩
theorem s_findService {σ : Nat → Int} {j r : Nat} {M : am_M} (hW : WD σ 1 M) (hO : OK σ) (hr : (r : Int) < σ 6) (hj : (j : Int) < σ 7) : ∃ (w : Int) (α : Nat → Int) (n : Nat) (N : am_M), g_X3_findService (pI j) (pI r) M = some (pI w, N) ∧ fr [158, 159, 160, 162, 163, 164, 165] M N ∧ (0 ≤ w ∧ w ≤ 6) ∧ sv σ j r w α n ∧ (w = 0 → RW σ 158 (ro σ r 0) α n N ∧ iv N 158 2 = σ 0) := by
  have h6 := hO.2.2.1
  have h7 := hO.2.2.2.1
  have hC := hO.1
  have hwl := hO.2.1
  have hRF := hO.2.2.2.2.2.1 r hr
  have hT := hO.2.2.2.2.2.2.1 j hj
  have hcell := ro_cell hRF.1
  have hT0 : 0 ≤ it σ j 0 ∧ it σ j 0 < 40 := hT.1
  have hT1 : 0 ≤ it σ j 1 ∧ it σ j 1 < 40 := hT.2.1
  have g1 := s_taskOf (w := 1) (j := j) M (by omega)
  rw [show 1 + 40 + j = 41 + j by omega] at g1
  have g2 := s_isInLift hW hO hr
  have htb := hW.2.2.2.2 j hj
  unfold TB at htb
  rw [show 1 + 40 + j = 41 + j by omega] at htb
  obtain ⟨⟨t0, t1, t2, t3⟩, _⟩ := htb
  unfold g_X3_findService
  rw [g1, am_b_some, g2, am_b_some]
  by_cases hl : 0 < ro σ r 3
  · rw [if_pos hl, if_neg ci1]
    exact ⟨1, fun _ => 0, 0, M, rfl, fr_refl _ _, by omega, Or.inl ⟨rfl, hl⟩, fun q => by omega⟩
  · have h3 : ro σ r 3 = 0 := by have := hRF.1.2.2.2.1; omega
    rw [if_neg hl, if_pos ci0]
    obtain ⟨N1, g3, f1, a1, a2, a3, a4⟩ := s_begin (wo := -1) hW hO hr (by omega)
    rw [fp_zero h3] at a2
    have hn41 : ∀ {X : List Nat}, (∀ a ∈ X, 158 ≤ a ∧ a ≤ 165) → 41 + j ∉ X := fun hX q => by have := hX _ q; omega
    have c0 : am_g N1 (41 + j) 0 = pI (it σ j 0) := by rw [pi_g, fr_i f1 (hn41 (by decide)), t0]
    rw [show (-1 : Int32) = pI (-1) from rfl, g3, am_b_some, c0]
    obtain ⟨c, ec⟩ : ∃ c : Nat, (c : Int) = ro σ r 0 := ⟨(ro σ r 0).toNat, by omega⟩
    have hFL1 : FL σ N1 := FLw_one (FLw_fr hW.1 f1 (by intro a b1 b2 h; simp only [List.mem_cons, List.not_mem_nil, or_false] at h; omega))
    have b := a2 (fun _ => 0)
    rw [← ec] at b
    obtain ⟨N2, f2, k2, hx2⟩ := s_extend (fin := 0) (f := 0) (c := c) (g := it σ j 0) (m0 := 0) (α := fun _ => 0) (c0 := c) a3 a4 hwl hFL1 (by omega) (by omega) hT.1 (by omega) b rfl rfl
    rcases hx2 with ⟨e1, n1, C, g4, hr1, hR1, hlt1, hlc1, hlco1⟩ | ⟨g4, _, hno⟩
    · rw [Nat.zero_add] at hR1 hlt1 hlc1 hlco1
      obtain ⟨α1, eα1⟩ : ∃ α1, α1 = wb σ r (-1) e1 C 0 c (fun _ => 0) 0 := ⟨_, rfl⟩
      rw [← eα1] at hR1 hlt1 hlc1 hlco1
      have hrtg1 : rtg σ r (-1) 0 (ro σ r 0) (it σ j 0) 0 α1 n1 := by
        rw [← ec]
        refine ⟨e1, C, hr1, fun k hk => ?_⟩
        rw [eα1]
        unfold wb
        rw [if_neg (by omega), Nat.sub_zero]
      have he1 : e1 ≤ 30 := hr1.1.2.1
      have hn1 := lt_ge α1 n1
      rw [hlt1] at hn1
      have hge : (g_X0_extend 158 (pI (it σ j 0)) (0 : Int32) N1) = some (pI 1, N2) := g4
      rw [hge, am_b_some, if_neg ci1]
      have f12 : fr [158, 159, 160, 162, 163, 164, 165] M N2 := fr_trans (fr_mono f1 (by simp)) (fr_mono f2 (by simp))
      have c2 : am_g N2 (41 + j) 2 = pI (it σ j 2) := by rw [pi_g, fr_i f12 (hn41 (by decide)), t2]
      have c14 : am_g N2 1 4 = pI (σ 0) := by rw [pi_g, fr_i f12 (by decide), hW.2.1.2.2]
      have c158 : am_g N2 158 3 = pI (e1 : Nat) := by rw [pi_g, hR1.1, hlt1]
      obtain ⟨F, eF⟩ : ∃ F : Nat, (F : Int) = it σ j 0 := ⟨(it σ j 0).toNat, by omega⟩
      have hlast : g_X2_lastPlace 158 N2 = some (pI (F : Nat), N2) := by
        unfold g_X2_lastPlace
        have := hR1.2.2.2
        rw [hlt1, hlc1] at this
        rw [c158, s_at1 _ _ _ (by omega) (by omega) (by omega), am_b_some, Int.toNat_natCast, this, eF]
      obtain ⟨rl, erl⟩ : ∃ rl, rl = it σ j 2 - σ 0 := ⟨_, rfl⟩
      have hT4 := hT.2.2.2.1
      have hT5 := hT.2.2.2.2.1
      obtain ⟨h, eh⟩ : ∃ h, h = hh σ j e1 := ⟨_, rfl⟩
      have ehm : h = max e1 rl.toNat := by rw [eh, erl]; rfl
      have hwst : g_X3_waitUntil (pI (it σ j 2)) N2 = (if rl ≤ 30 then (am_b (g_X3_waitUntil_L37 (pI rl) (pI (F : Nat)) am_fu (pI ((e1 : Int) + 1)) N2) (fun x11 M12 => (if x11 = 56 then (some ((0 : Int32), M12)) else (some ((1 : Int32), M12))))) else (some ((0 : Int32), N2))) := by
        unfold g_X3_waitUntil
        rw [hlast, am_b_some, c14, c158, pi_sub, ← erl, show pI (e1 : Nat) + (1 : Int32) = pI ((e1 : Int) + 1) from by rw [show (1 : Int32) = pI 1 from rfl, pi_add]]
        by_cases q : rl ≤ 30
        · rw [if_pos q, if_pos (show pI rl ≤ (30 : Int32) by show _ ≤ pI 30; rw [pi_le (by omega) (by omega) (by omega) (by omega)]; exact q)]
        · rw [if_neg q, if_neg (show ¬ (pI rl ≤ (30 : Int32)) by show ¬ (_ ≤ pI 30); rw [pi_le (by omega) (by omega) (by omega) (by omega)]; exact q)]
      have three : ∀ N, fr [158, 159, 160, 162, 163, 164, 165] M N → ¬ wok σ j r e1 → ∃ (w : Int) (α : Nat → Int) (n : Nat) (N' : am_M), some ((3 : Int32), N) = some (pI w, N') ∧ fr [158, 159, 160, 162, 163, 164, 165] M N' ∧ (0 ≤ w ∧ w ≤ 6) ∧ sv σ j r w α n ∧ (w = 0 → RW σ 158 (ro σ r 0) α n N' ∧ iv N' 158 2 = σ 0) := fun N hf hnw => ⟨3, α1, 0, N, rfl, hf, by omega, Or.inr ⟨h3, Or.inr ⟨n1, hrtg1, Or.inl ⟨rfl, by rw [hlt1]; exact hnw⟩⟩⟩, fun q => by omega⟩
      rw [c2, hwst]
      by_cases q30 : rl ≤ 30
      · rw [if_pos q30]
        have hz : rl = ((e1 + (h - e1) : Nat) : Int) ∨ (h - e1 = 0 ∧ rl ≤ e1 ∧ -2000 ≤ rl) := by omega
        have hh30 : e1 + (h - e1) ≤ 30 := by omega
        have hFM2 := FM_fr a3 f2 (by decide) (by decide)
        have hBW2 := BW_fr a4 f2 (by decide)
        rcases s_waits (z := h - e1) (rl := rl) hFM2 (show F < 40 by omega) hn1 hR1 hlt1 (by rw [hlc1]; exact eF.symm) hz hh30 with ⟨N3, g5, f3, k3, hR3, hfre⟩ | ⟨N3, g5, f3, t, ht1, ht2, ht3⟩
        · rw [g5, am_b_some, if_neg (by decide), am_b_some, if_neg (by decide)]
          have hwok : wok σ j r e1 := ⟨by rw [← eh]; omega, fun t q1 q2 => by rw [← eF]; exact hfre t q1 (by rw [← eh] at q2; omega)⟩
          have f123 : fr [158, 159, 160, 162, 163, 164, 165] M N3 := fr_trans f12 (fr_mono f3 (by simp))
          have c1 : am_g N3 (41 + j) 1 = pI (it σ j 1) := by rw [pi_g, fr_i f123 (hn41 (by decide)), t1]
          have hFL3 : FL σ N3 := FL_fr (FL_fr hFL1 f2 (by decide) (by decide) (by decide) (by decide)) f3 (by decide) (by decide) (by decide) (by decide)
          obtain ⟨m, em⟩ : ∃ m, m = n1 + (h - e1) := ⟨_, rfl⟩
          rw [← em] at hR3
          have hltm : lt (zl α1 n1) m = h := by rw [em, lt_zeros zl_zero, ← lt_congr zl_low, hlt1]; omega
          have hlcm : lc σ c (zl α1 n1) m = F := by rw [em, lc_zeros zl_zero, ← lc_congr zl_low, hlc1, eF]
          obtain ⟨N4, f4, k4, hx4⟩ := s_extend (fin := 1) (f := h) (c := F) (g := it σ j 1) (m0 := m) (α := zl α1 n1) (c0 := c) (FM_fr hFM2 f3 (by decide) (by decide)) (BW_fr hBW2 f3 (by decide)) hwl hFL3 (by omega) (by omega) hT.2.1 (by omega) hR3 hltm hlcm
          have f1234 : fr [158, 159, 160, 162, 163, 164, 165] M N4 := fr_trans f123 (fr_mono f4 (by simp))
          rw [c1]
          rcases hx4 with ⟨e2, n2, C2, g6, hr2, hR4, hlt4, hlc4, hlco4⟩ | ⟨g6, _, hno⟩
          · obtain ⟨β, eβ⟩ : ∃ β, β = wb σ r (-1) e2 C2 h F (zl α1 n1) m := ⟨_, rfl⟩
            rw [← eβ] at hR4 hlt4 hlc4 hlco4
            have hβ1 : ∀ k, k < n1 → α1 k = β k := fun k hk => by
              rw [eβ]; unfold wb; rw [if_pos (by omega)]; exact zl_low k hk
            have hβ0 : ∀ k, n1 ≤ k → k < m → β k = 0 := fun k hk1 hk2 => by
              rw [eβ]; unfold wb; rw [if_pos hk2]; exact zl_zero (z := m) k hk1 (by omega)
            have hr2' : rtg σ r (-1) h (it σ j 0) (it σ j 1) 1 (fun k => β (m + k)) n2 := by
              rw [← eF]
              refine ⟨e2, C2, hr2, fun k hk => ?_⟩
              dsimp only
              rw [eβ]
              unfold wb
              rw [if_neg (by omega), show m + k - m = k by omega]
            have hrtgβ := rtg_congr hrtg1 hβ1
            have hltβ : lt β n1 = e1 := by rw [← lt_congr hβ1, hlt1]
            have he2 := hr2.1.2.1
            have hco := lco_rng β (m + n2)
            have hmn := lt_ge β (m + n2)
            rw [hlt4] at hmn
            have hWN4 : WD σ 1 N4 := WD_fr hW h6.2 h7.2 f1234 (by intro z z1 z2 z3; simp at z3; omega)
            have ga := s_affordable hWN4 hO hr hR4 (by omega)
            have d1 : am_g N4 1 4 + am_g N4 158 3 = pI (σ 0 + e2) := by rw [pi_g, pi_g, fr_i f1234 (by decide), hW.2.1.2.2, hR4.1, hlt4, pi_add]
            have d3 : am_g N4 (41 + j) 3 = pI (it σ j 3) := by rw [pi_g, fr_i f1234 (hn41 (by decide)), t3]
            have hsv : ∀ w : Int, w = (if it σ j 3 < σ 0 + lt β (m + n2) then 5 else if ro σ r 1 < lco β (m + n2) then 6 else 0) → sv σ j r w β (m + n2) := fun w hw => by
              refine Or.inr ⟨h3, Or.inr ⟨n1, hrtgβ, Or.inr ?_⟩⟩
              rw [hltβ, ← eh]
              rw [← em]
              exact ⟨hwok, hβ0, Or.inr ⟨n2, hr2', rfl, hw⟩⟩
            have hg6 : (g_X0_extend 158 (pI (it σ j 1)) (1 : Int32) N3) = some (pI 1, N4) := g6
            rw [hg6, am_b_some, if_neg ci1, d1, d3]
            by_cases q5 : it σ j 3 < σ 0 + e2
            · rw [if_neg (show ¬ (pI (σ 0 + e2) ≤ pI (it σ j 3)) by rw [pi_le (by omega) (by omega) (by omega) (by omega)]; omega)]
              exact ⟨5, β, m + n2, N4, rfl, f1234, by omega, hsv 5 (by rw [hlt4, if_pos q5]), fun q => by omega⟩
            · rw [if_pos (show pI (σ 0 + e2) ≤ pI (it σ j 3) by rw [pi_le (by omega) (by omega) (by omega) (by omega)]; omega), ga, am_b_some]
              by_cases q6 : ro σ r 1 < lco β (m + n2)
              · rw [if_pos q6, if_pos ci0]
                exact ⟨6, β, m + n2, N4, rfl, f1234, by omega, hsv 6 (by rw [hlt4, if_neg q5, if_pos q6]), fun q => by omega⟩
              · rw [if_neg q6, if_neg ci1]
                refine ⟨0, β, m + n2, N4, rfl, f1234, by omega, hsv 0 (by rw [hlt4, if_neg q5, if_neg q6]), fun _ => ⟨by rw [← ec]; exact hR4, ?_⟩⟩
                rw [k4 2 (by omega) (by omega), k3 2 (by omega) (by omega), k2 2 (by omega) (by omega)]
                exact a1
          · have hg6 : (g_X0_extend 158 (pI (it σ j 1)) (1 : Int32) N3) = some (pI 0, N4) := g6
            rw [hg6, am_b_some, if_pos ci0]
            refine ⟨4, zl α1 n1, 0, N4, rfl, f1234, by omega, Or.inr ⟨h3, Or.inr ⟨n1, rtg_congr hrtg1 zl_low, Or.inr ?_⟩⟩, fun q => by omega⟩
            rw [← lt_congr zl_low, hlt1, ← eh]
            exact ⟨hwok, fun k k1 k2 => zl_zero k k1 k2, Or.inl ⟨rfl, by rw [← eF]; exact hno⟩⟩
        · rw [g5, am_b_some, if_pos rfl, am_b_some, if_pos rfl]
          refine three N3 (fr_trans f12 (fr_mono f3 (by simp))) (fun hw => ht3 ?_)
          rw [eF]
          exact hw.2 t ht1 (by rw [← eh]; omega)
      · rw [if_neg q30, am_b_some, if_pos rfl]
        refine three N2 f12 (fun hw => ?_)
        have := hw.1
        rw [← eh] at this
        omega
    · have hge : (g_X0_extend 158 (pI (it σ j 0)) (0 : Int32) N1) = some (pI 0, N2) := g4
      rw [hge, am_b_some, if_pos ci0]
      refine ⟨2, fun _ => 0, 0, N2, rfl, fr_trans (fr_mono f1 (by simp)) (fr_mono f2 (by simp)), by omega, Or.inr ⟨h3, Or.inl ⟨rfl, fun e he => by rw [← ec]; exact hno e (by omega) he⟩⟩, fun q => by omega⟩
end RM
