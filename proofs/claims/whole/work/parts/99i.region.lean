/-! the cases region and ticksBetween -/
section SD
theorem s_reached {G : Nat → Int} {N : am_M} (h : ∀ x, x < 40 → iv N 6 x = G x) (hb : ∀ x, x < 40 → 0 ≤ G x ∧ G x ≤ 1000000) : g_X1_reachedFrom_L9 (1 + 1) am_fu (0 : Int32) (0 : Int32) N = some (pI (cn (fun c => G c < 1000000) 40), N) := by
  obtain ⟨s, g1, e1⟩ := lo_for (fun m (s : Int32 × Int32 × am_M) => g_X1_reachedFrom_L9 (1 + 1) m s.1 s.2.1 s.2.2) (fun q s => s = (pI (cn (fun c => G c < 1000000) q), pI (q : Nat), N)) (fun s => s = (pI (cn (fun c => G c < 1000000) 40), N)) 0 40 (pI 0, pI 0, N) rfl (by omega) (by unfold am_fu; omega) (by
    rintro m q s hq rfl
    left
    have hr := cn_rng (fun c => G c < 1000000) q
    have hbq := hb q hq
    have k2 : g_X9_at (1 + 1 + 4) 40 (pI (q : Nat)) N = some (pI (G q), N) := by
      rw [s_at1 _ _ _ (by omega) (by omega) (by omega), Int.toNat_natCast]
      exact congrArg (fun z => some (pI z, N)) (h q hq)
    have nx : pI (q : Nat) + (1 : Int32) = pI (q + 1 : Nat) := by rw [show (1 : Int32) = pI 1 from rfl, pi_add]; rfl
    refine ⟨_, ?_, rfl⟩
    dsimp only
    rw [g_X1_reachedFrom_L9, if_neg (show ¬ ((40 : Int32) ≤ pI (q : Nat)) by rw [show (40 : Int32) = pI 40 from rfl, pi_le (by omega) (by omega) (by omega) (by omega)]; omega), k2, am_b_some, nx, cn]
    by_cases e : G q < 1000000
    · rw [cif_t e, if_neg (show ¬ ((1000000 : Int32) ≤ pI (G q)) by rw [show (1000000 : Int32) = pI 1000000 from rfl, pi_le (by omega) (by omega) (by omega) (by omega)]; omega), show (1 : Int32) = pI 1 from rfl, pi_add]
    · rw [cif_f e, if_pos (show (1000000 : Int32) ≤ pI (G q) by rw [show (1000000 : Int32) = pI 1000000 from rfl, pi_le (by omega) (by omega) (by omega) (by omega)]; omega), Int.add_zero]) (by
    rintro m s rfl
    refine ⟨_, ?_, rfl⟩
    dsimp only
    rw [g_X1_reachedFrom_L9, if_pos (by decide)])
  subst e1
  exact g1
theorem s_mreached {G : Nat → Int} {N : am_M} (h : ∀ x, x < 40 → iv N 185 x = G x) (hb : ∀ x, x < 40 → 0 ≤ G x ∧ G x ≤ 1000000) : g_X10_region_L27 am_fu (0 : Int32) (0 : Int32) N = some (pI (cn (fun c => G c < 1000000) 40), N) := by
  obtain ⟨s, g1, e1⟩ := lo_for (fun m (s : Int32 × Int32 × am_M) => g_X10_region_L27 m s.1 s.2.1 s.2.2) (fun q s => s = (pI (cn (fun c => G c < 1000000) q), pI (q : Nat), N)) (fun s => s = (pI (cn (fun c => G c < 1000000) 40), N)) 0 40 (pI 0, pI 0, N) rfl (by omega) (by unfold am_fu; omega) (by
    rintro m q s hq rfl
    left
    have hr := cn_rng (fun c => G c < 1000000) q
    have hbq := hb q hq
    have c6 : am_g N 185 (pI (q : Nat)).toNatClampNeg = pI (G q) := by rw [pi_cn (by omega) (by omega), Int.toNat_natCast, pi_g, h q hq]
    have nx : pI (q : Nat) + (1 : Int32) = pI (q + 1 : Nat) := by rw [show (1 : Int32) = pI 1 from rfl, pi_add]; rfl
    refine ⟨_, ?_, rfl⟩
    dsimp only
    rw [g_X10_region_L27, if_neg (show ¬ ((40 : Int32) ≤ pI (q : Nat)) by rw [show (40 : Int32) = pI 40 from rfl, pi_le (by omega) (by omega) (by omega) (by omega)]; omega), pi_ci (by omega) (by omega) (by omega), c6, nx, cn]
    by_cases e : G q < 1000000
    · rw [cif_t e, if_neg (show ¬ ((1000000 : Int32) ≤ pI (G q)) by rw [show (1000000 : Int32) = pI 1000000 from rfl, pi_le (by omega) (by omega) (by omega) (by omega)]; omega), show (1 : Int32) = pI 1 from rfl, pi_add]
    · rw [cif_f e, if_pos (show (1000000 : Int32) ≤ pI (G q) by rw [show (1000000 : Int32) = pI 1000000 from rfl, pi_le (by omega) (by omega) (by omega) (by omega)]; omega), show (0 : Int32) = pI 0 from rfl, pi_add]) (by
    rintro m s rfl
    refine ⟨_, ?_, rfl⟩
    dsimp only
    rw [g_X10_region_L27, if_pos (by decide)])
  subst e1
  exact g1
theorem dist_open {M : am_M} (hI : INV M) {s : Nat} (hs : s < 40) : ∃ (G : Nat → Int) (O : am_M), (∀ x, x < 40 → 0 ≤ G x ∧ G x ≤ 1000000) ∧ g_X1_measureFrom (1 + 1) (pI s) M = some ((), O) ∧ fr [6] M O ∧ (∀ x, x < 40 → iv O 6 x = G x) ∧ ∀ P, fr [174, 186] O P → ∃ Q, g_X10_measures (pI s) P = some ((), Q) ∧ fr [185] P Q ∧ ∀ x, x < 40 → iv Q 185 x = G x := by
  obtain ⟨N, g1, f1, p1⟩ := s_measures (P := M) rfl hI.1.2.1 hs
  obtain ⟨O, g2, f2, p2⟩ := s_cmeasure hI.2.1.1 hI.1.2.1 p1 hs
  refine ⟨_, O, p1.1, g2, f2, p2, fun P hP => ?_⟩
  have hsP : sg P = sg M := (sg_fr hP (by decide)).trans (sg_fr f2 (by decide))
  obtain ⟨Q, g3, f3, p3⟩ := s_measures hsP hI.1.2.1 hs
  exact ⟨Q, g3, f3, DG_uniq p3 p1⟩
theorem cs_region {M : am_M} (hI : INV M) (a : Int32) : CS (g_L_region a M) (g_X10_region a) := by
  obtain ⟨y, rfl, hy1, hy2⟩ := pi_cast a
  by_cases c : 0 ≤ y ∧ y < 40
  · obtain ⟨s, rfl⟩ : ∃ s : Nat, y = s := ⟨y.toNat, by omega⟩
    obtain ⟨G, O, hb, g1, f1, p1, hm⟩ := dist_open hI (s := s) (by omega)
    have g2 := s_reached p1 hb
    obtain ⟨v, ev⟩ : ∃ v, v = pI (cn (fun c => G c < 1000000) 40) := ⟨_, rfl⟩
    rw [← ev] at g2
    have fP : fr [174, 186] O (am_s (am_ls O 186 0 v.toInt64) 174 0 (pI 0)) := fr_trans (fr_ls (by simp)) (fr_s (by simp))
    obtain ⟨Q, g3, f3, p3⟩ := hm _ fP
    have g4 := s_mreached p3 hb
    rw [← ev] at g4
    refine CS_yes (O := O) (v := v) (Q := Q) ?_ ?_ ?_ ?_ ?_
    · unfold g_L_region g_X9_region g_X1_reachedFrom
      rw [s_demandCell hy1 hy2, if_pos c, am_bx_inl, g1, am_b_some]
      exact (congrArg (fun z => am_bt (am_b (am_b z _) _) _ _) g2).trans rfl
    · unfold g_X10_region
      rw [mcell_t c, am_b_some, if_neg ci1]
      refine (congrArg (fun z => am_b z _) g3).trans ?_
      rw [am_b_some, g4, am_b_some]
    · rw [fr_i f3 (by decide)]
      exact thr_s (by omega) (by omega)
    · rw [fr_l f3 (by decide)]
      rfl
    · refine INV_scr5 hI (X := [6, 174, 185, 186]) (fr_trans (fr_mono f1 (by simp)) (fr_trans (fr_mono fP (by simp)) (fr_mono f3 (by simp)))) (fun a ha => by simp at ha; omega) (fun k hk => ?_)
      rw [fr_i f3 (by decide), iv_s (by omega) (by omega), if_neg (by omega), iv_ls, fr_i f1 (by decide)]
  · refine CS_no1 (k := 1) (v := 0) hI ?_ ?_ (by omega)
    · unfold g_L_region g_X9_region
      rw [s_demandCell hy1 hy2, if_neg c, am_bx_inr]
      rfl
    · unfold g_X10_region
      rw [mcell_f hy1 hy2 c, am_b_some, if_pos ci0]
      rfl
theorem cs_ticksBetween {M : am_M} (hI : INV M) (a b : Int32) : CS (g_L_ticksBetween a b M) (g_X10_ticksBetween a b) := by
  obtain ⟨y, rfl, hy1, hy2⟩ := pi_cast a
  obtain ⟨z, rfl, hz1, hz2⟩ := pi_cast b
  by_cases c : 0 ≤ y ∧ y < 40
  · by_cases d : 0 ≤ z ∧ z < 40
    · obtain ⟨s, rfl⟩ : ∃ s : Nat, y = s := ⟨y.toNat, by omega⟩
      obtain ⟨t, rfl⟩ : ∃ t : Nat, z = t := ⟨z.toNat, by omega⟩
      obtain ⟨G, O, hb, g1, f1, p1, hm⟩ := dist_open hI (s := s) (by omega)
      have hbt := hb t (by omega)
      have k2 : g_X9_at (1 + 1 + 4) 40 (pI (t : Nat)) O = some (pI (G t), O) := by
        rw [s_at1 _ _ _ (by omega) (by omega) (by omega), Int.toNat_natCast]
        exact congrArg (fun z => some (pI z, O)) (p1 t (by omega))
      have hclass : ∀ r, (if pI (G t) < (1000000 : Int32) then some ((.inl (pI (G t)) : Int32 ⊕ Nat), O) else some ((.inr 4 : Int32 ⊕ Nat), O)) = r → g_X9_ticksBetween (pI (s : Nat)) (pI (t : Nat)) M = r := fun r hr => by
        unfold g_X9_ticksBetween g_X1_distance
        rw [s_demandCell hy1 hy2, if_pos c, am_bx_inl, s_demandCell hz1 hz2, if_pos d, am_bx_inl, g1, am_b_some, k2, am_b_some, am_b_some]
        exact hr
      by_cases e : G t < 1000000
      · rw [if_pos (show pI (G t) < (1000000 : Int32) by rw [show (1000000 : Int32) = pI 1000000 from rfl, pi_lt (by omega) (by omega) (by omega) (by omega)]; exact e)] at hclass
        have fP : fr [174, 186] O (am_s (am_ls O 186 0 (pI (G t)).toInt64) 174 0 (pI 0)) := fr_trans (fr_ls (by simp)) (fr_s (by simp))
        obtain ⟨Q, g3, f3, p3⟩ := hm _ fP
        have c6 : am_g Q 185 (pI (t : Nat)).toNatClampNeg = pI (G t) := by rw [pi_cn (by omega) (by omega), Int.toNat_natCast, pi_g, p3 t (by omega)]
        refine CS_yes (O := O) (v := pI (G t)) (Q := Q) ?_ ?_ ?_ ?_ ?_
        · unfold g_L_ticksBetween
          rw [hclass _ rfl]
          rfl
        · unfold g_X10_ticksBetween
          rw [mcell_t c, am_b_some, if_neg ci1, mcell_t d, am_b_some, if_neg ci1]
          refine (congrArg (fun z => am_b z _) g3).trans ?_
          rw [am_b_some, pi_ci (by omega) (by omega) (by omega), pi_ci (by omega) (by omega) (by omega), c6, if_neg (show ¬ ((1000000 : Int32) ≤ pI (G t)) by rw [show (1000000 : Int32) = pI 1000000 from rfl, pi_le (by omega) (by omega) (by omega) (by omega)]; omega)]
        · rw [fr_i f3 (by decide)]
          exact thr_s (by omega) (by omega)
        · rw [fr_l f3 (by decide)]
          rfl
        · refine INV_scr5 hI (X := [6, 174, 185, 186]) (fr_trans (fr_mono f1 (by simp)) (fr_trans (fr_mono fP (by simp)) (fr_mono f3 (by simp)))) (fun a ha => by simp at ha; omega) (fun k hk => ?_)
          rw [fr_i f3 (by decide), iv_s (by omega) (by omega), if_neg (by omega), iv_ls, fr_i f1 (by decide)]
      · rw [if_neg (show ¬ (pI (G t) < (1000000 : Int32)) by rw [show (1000000 : Int32) = pI 1000000 from rfl, pi_lt (by omega) (by omega) (by omega) (by omega)]; exact e)] at hclass
        have fP : fr [174, 186] O (am_s O 174 0 (pI 0)) := fr_s (by simp)
        obtain ⟨Q, g3, f3, p3⟩ := hm _ fP
        have c6 : am_g Q 185 (pI (t : Nat)).toNatClampNeg = pI (G t) := by rw [pi_cn (by omega) (by omega), Int.toNat_natCast, pi_g, p3 t (by omega)]
        refine CS_no (M := M) (k := 2) (P := O) (v := 0) (Q := am_s Q 174 0 (pI 2)) ?_ ?_ (thr_s (M := Q) (v := 2) (by omega) (by omega)) (by decide) ?_
        · unfold g_L_ticksBetween
          rw [hclass _ rfl]
          rfl
        · unfold g_X10_ticksBetween
          rw [show (0 : Int32) = pI 0 from rfl, mcell_t c, am_b_some, if_neg cp1, mcell_t d, am_b_some, if_neg cp1, g3, am_b_some, pi_ci (by omega) (by omega) (by omega), c6, if_pos (show (1000000 : Int32) ≤ pI (G t) by rw [show (1000000 : Int32) = pI 1000000 from rfl, pi_le (by omega) (by omega) (by omega) (by omega)]; omega)]
          rfl
        · refine INV_thrown (INV_scr5 hI (X := [6, 174, 185, 186]) (fr_trans (fr_mono f1 (by simp)) (fr_trans (fr_mono fP (by simp)) (fr_mono f3 (by simp)))) (fun a ha => by simp at ha; omega) (fun k hk => ?_)) _
          rw [fr_i f3 (by decide), iv_s (by omega) (by omega), if_neg (by omega), fr_i f1 (by decide)]
    · refine CS_no1 (k := 1) (v := 0) hI ?_ ?_ (by omega)
      · unfold g_L_ticksBetween g_X9_ticksBetween
        rw [s_demandCell hy1 hy2, if_pos c, am_bx_inl, s_demandCell hz1 hz2, if_neg d, am_bx_inr]
        rfl
      · unfold g_X10_ticksBetween
        rw [mcell_t c, am_b_some, if_neg ci1, mcell_f hz1 hz2 d, am_b_some, if_pos ci0]
        rfl
  · refine CS_no1 (k := 1) (v := 0) hI ?_ ?_ (by omega)
    · unfold g_L_ticksBetween g_X9_ticksBetween
      rw [s_demandCell hy1 hy2, if_neg c, am_bx_inr]
      rfl
    · unfold g_X10_ticksBetween
      rw [mcell_f hy1 hy2 c, am_b_some, if_pos ci0]
      rfl
end SD
