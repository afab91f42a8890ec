/-! addRobot -/
section RF2
noncomputable def fRo (σ : Nat → Int) (c b : Int) : Int := cif (0 ≤ c ∧ c < 40) (cif ((0 ≤ b ∧ b ≤ 100) ∧ σ (8 + c.toNat) ≠ 1) (cif (5 ≤ σ 6 ∨ met σ c (-1)) 3 0) 2) 1
theorem fRo_rng (σ : Nat → Int) (c b : Int) : fRo σ c b = 0 ∨ fRo σ c b = 1 ∨ fRo σ c b = 2 ∨ fRo σ c b = 3 := by
  unfold fRo
  by_cases h1 : 0 ≤ c ∧ c < 40
  · rw [cif_t h1]
    by_cases h2 : (0 ≤ b ∧ b ≤ 100) ∧ σ (8 + c.toNat) ≠ 1
    · rw [cif_t h2]
      by_cases h3 : 5 ≤ σ 6 ∨ met σ c (-1)
      · rw [cif_t h3]; omega
      · rw [cif_f h3]; omega
    · rw [cif_f h2]; omega
  · rw [cif_f h1]; omega
theorem fRo_ok {σ : Nat → Int} {c b : Int} (h : fRo σ c b = 0) : (0 ≤ c ∧ c < 40) ∧ ((0 ≤ b ∧ b ≤ 100) ∧ σ (8 + c.toNat) ≠ 1) ∧ ¬ (5 ≤ σ 6 ∨ met σ c (-1)) := by
  unfold fRo at h
  by_cases h1 : 0 ≤ c ∧ c < 40
  · rw [cif_t h1] at h
    by_cases h2 : (0 ≤ b ∧ b ≤ 100) ∧ σ (8 + c.toNat) ≠ 1
    · rw [cif_t h2] at h
      by_cases h3 : 5 ≤ σ 6 ∨ met σ c (-1)
      · rw [cif_t h3] at h; omega
      · exact ⟨h1, h2, h3⟩
    · rw [cif_f h2] at h; omega
  · rw [cif_f h1] at h; omega
/-- the class makes a robot at p -/
theorem s_rbegin {p : Nat} {c b C : Int} (M : am_M) (hp : p < 900) (hc : 0 ≤ c ∧ c < 40) (hb : 0 ≤ b ∧ b ≤ 100) (hC : 0 ≤ C ∧ C ≤ 1000) : ∃ N, g_X4_begin p (pI c) (pI b) (pI C) M = some ((), N) ∧ fr [p, p + 1, p + 3, p + 4] M N ∧ iv N p 2 = b ∧ iv N p 3 = -1 ∧ iv N p 4 = C ∧ iv N (p + 1) 2 = C ∧ iv N (p + 1) 3 = 0 ∧ iv N (p + 3) 0 = c ∧ ∀ k, k < 5 → iv N (p + 4) k = 0 := by
  obtain ⟨N1, g1, f1, a1, a2, a3, a4⟩ := s_restAt (p := p + 1) (c := c) (C := C) M (by omega) (by omega) hC
  obtain ⟨N2, g2, f2, p2⟩ := s_fill (p + 4) 5 (v := 0) N1 (by omega) (by omega) (by omega)
  refine ⟨am_s (am_s (am_s N2 p 2 (pI b)) p 3 (pI (-1))) p 4 (pI C), ?_, ?_, ?_, ?_, ?_, ?_, ?_, ?_, fun k hk => ?_⟩
  · unfold g_X4_begin
    rw [g1, am_b_some]
    exact (congrArg (fun z => am_b z _) g2).trans rfl
  · exact fr_trans (fr_mono f1 (by simp)) (fr_trans (fr_mono f2 (by simp)) (fr_trans (fr_s (by simp)) (fr_trans (fr_s (by simp)) (fr_s (by simp)))))
  · rw [iv_b (by decide), iv_b (by decide), iv_a (by omega) (by omega)]
  · rw [iv_b (by decide), iv_a (by omega) (by omega)]
  · rw [iv_a (by omega) (by omega)]
  · rw [iv_c (by omega), iv_c (by omega), iv_c (by omega), fr_i f2 (by simp), a1]
  · rw [iv_c (by omega), iv_c (by omega), iv_c (by omega), fr_i f2 (by simp), a2]
  · rw [iv_c (by omega), iv_c (by omega), iv_c (by omega), fr_i f2 (by simp), a4]
  · rw [iv_c (by omega), iv_c (by omega), iv_c (by omega), p2, if_pos hk]
theorem s_makeRobot {σ : Nat → Int} {c b : Int} {M : am_M} (hW : WD σ 1 M) (hO : OK σ) (hc1 : -2147483648 ≤ c) (hc2 : c < 2147483648) (hb1 : -2147483648 ≤ b) (hb2 : b < 2147483648) : ∃ N, g_X8_makeRobot 1 (pI c) (pI b) M = some (pI (fRo σ c b), N) ∧ (fRo σ c b ≠ 0 → N = M) ∧ (fRo σ c b = 0 → fr [1, 16 + 5 * (σ 6).toNat, 17 + 5 * (σ 6).toNat, 19 + 5 * (σ 6).toNat, 20 + 5 * (σ 6).toNat] M N ∧ (∀ k, k ≠ 2 → iv N 1 k = iv M 1 k) ∧ iv N 1 2 = σ 6 + 1 ∧ iv N (16 + 5 * (σ 6).toNat) 2 = b ∧ iv N (16 + 5 * (σ 6).toNat) 3 = -1 ∧ iv N (16 + 5 * (σ 6).toNat) 4 = σ 0 ∧ iv N (17 + 5 * (σ 6).toNat) 2 = σ 0 ∧ iv N (17 + 5 * (σ 6).toNat) 3 = 0 ∧ iv N (19 + 5 * (σ 6).toNat) 0 = c ∧ ∀ k, k < 5 → iv N (20 + 5 * (σ 6).toNat) k = 0) := by
  have h6 := hO.2.2.1
  have hC := hO.1
  have cl0 : (pI b < (0 : Int32)) = (b < 0) := pi_lt (b := 0) hb1 hb2 (by omega) (by omega)
  have cl1 : ((100 : Int32) < pI b) = (100 < b) := pi_lt (a := 100) (by omega) (by omega) hb1 hb2
  unfold g_X8_makeRobot
  rw [s_isCell M hc1 hc2, am_b_some]
  have hno : ∀ f : Int, 0 < f → fRo σ c b = f → ∃ N, some (pI f, M) = some (pI (fRo σ c b), N) ∧ (fRo σ c b ≠ 0 → N = M) ∧ (fRo σ c b = 0 → fr [1, 16 + 5 * (σ 6).toNat, 17 + 5 * (σ 6).toNat, 19 + 5 * (σ 6).toNat, 20 + 5 * (σ 6).toNat] M N ∧ (∀ k, k ≠ 2 → iv N 1 k = iv M 1 k) ∧ iv N 1 2 = σ 6 + 1 ∧ iv N (16 + 5 * (σ 6).toNat) 2 = b ∧ iv N (16 + 5 * (σ 6).toNat) 3 = -1 ∧ iv N (16 + 5 * (σ 6).toNat) 4 = σ 0 ∧ iv N (17 + 5 * (σ 6).toNat) 2 = σ 0 ∧ iv N (17 + 5 * (σ 6).toNat) 3 = 0 ∧ iv N (19 + 5 * (σ 6).toNat) 0 = c ∧ ∀ k, k < 5 → iv N (20 + 5 * (σ 6).toNat) k = 0) := fun f hf he => ⟨M, by rw [he], fun _ => rfl, fun q => by omega⟩
  by_cases h1 : 0 ≤ c ∧ c < 40
  · rw [if_pos h1, if_neg ci1]
    simp only [cl0, cl1]
    by_cases h2 : 0 ≤ b ∧ b ≤ 100
    · rw [if_neg (show ¬ b < 0 by omega), if_neg (show ¬ 100 < b by omega), show (1 + 1 : Nat) = 2 from rfl, s_wall2 hW h1, am_b_some]
      by_cases h3 : σ (8 + c.toNat) = 1
      · rw [if_pos h3, if_neg ci1]
        exact hno 2 (by omega) (by unfold fRo; rw [cif_t h1, cif_f (fun q => q.2 h3)])
      · rw [if_neg h3, if_pos ci0]
        have e2 : am_g M 1 2 = pI (σ 6) := by rw [pi_g, hW.2.1.1]
        have e4 : am_g M 1 4 = pI (σ 0) := by rw [pi_g, hW.2.1.2.2]
        rw [e2]
        by_cases h4 : 5 ≤ σ 6
        · rw [if_pos (show (5 : Int32) ≤ pI (σ 6) by show pI 5 ≤ _; rw [pi_le (by omega) (by omega) (by omega) (by omega)]; exact h4)]
          exact hno 3 (by omega) (by unfold fRo; rw [cif_t h1, cif_t ⟨h2, h3⟩, cif_t (Or.inl h4)])
        · rw [if_neg (show ¬ ((5 : Int32) ≤ pI (σ 6)) by show ¬ (pI 5 ≤ _); rw [pi_le (by omega) (by omega) (by omega) (by omega)]; exact h4), show (-1 : Int32) = pI (-1) from rfl, s_isMet hW hO (by omega) (by omega), am_b_some]
          by_cases h5 : met σ c (-1)
          · rw [b01_t h5, if_neg ci1]
            exact hno 3 (by omega) (by unfold fRo; rw [cif_t h1, cif_t ⟨h2, h3⟩, cif_t (Or.inr h5)])
          · have hf : fRo σ c b = 0 := by unfold fRo; rw [cif_t h1, cif_t ⟨h2, h3⟩, cif_f (fun q => q.elim h4 h5)]
            obtain ⟨r, er⟩ : ∃ r : Nat, σ 6 = r := ⟨(σ 6).toNat, by omega⟩
            rw [b01_f h5, if_pos ci0, e2, er, s_robotOf M (by omega), am_b_some, show 1 + 15 + 5 * r = 16 + 5 * r by omega, e4]
            obtain ⟨N, g1, f1, a1, a2, a3, a4, a5, a6, a7⟩ := s_rbegin (p := 16 + 5 * r) (c := c) (b := b) (C := σ 0) M (by omega) h1 h2 hC
            rw [Int.toNat_natCast]
            have e5 : am_g N 1 2 + (1 : Int32) = pI ((r : Int) + 1) := by rw [pi_g, fr_i f1 (by simp; omega), hW.2.1.1, er, show (1 : Int32) = pI 1 from rfl, pi_add]
            refine ⟨am_s N 1 2 (pI ((r : Int) + 1)), ?_, fun q => absurd hf q, fun _ => ⟨?_, fun k hk => ?_, ?_, ?_, ?_, ?_, ?_, ?_, ?_, fun k hk => ?_⟩⟩
            · rw [g1, am_b_some, e5, hf]
              rfl
            · exact fr_trans (fr_mono f1 (by simp; omega)) (fr_s (by simp))
            · rw [iv_b hk, fr_i f1 (by simp; omega)]
            · rw [iv_a (by omega) (by omega)]
            · rw [iv_c (by omega)]; exact a1
            · rw [iv_c (by omega)]; exact a2
            · rw [iv_c (by omega)]; exact a3
            · rw [iv_c (by omega), show 17 + 5 * r = 16 + 5 * r + 1 by omega]; exact a4
            · rw [iv_c (by omega), show 17 + 5 * r = 16 + 5 * r + 1 by omega]; exact a5
            · rw [iv_c (by omega), show 19 + 5 * r = 16 + 5 * r + 3 by omega]; exact a6
            · rw [iv_c (by omega), show 20 + 5 * r = 16 + 5 * r + 4 by omega]; exact a7 k hk
    · have hf : fRo σ c b = 2 := by unfold fRo; rw [cif_t h1, cif_f (fun q => h2 q.1)]
      by_cases h3 : b < 0
      · rw [if_pos h3]; exact hno 2 (by omega) hf
      · rw [if_neg h3, if_pos (by omega)]; exact hno 2 (by omega) hf
  · rw [if_neg h1, if_pos ci0]
    exact hno 1 (by omega) (by unfold fRo; rw [cif_f h1])
def roF (σ : Nat → Int) (r : Nat) (c b : Int) : Nat → Int := fun i => if i = 6 then (r : Int) + 1 else if i = 92 + 42 * r then -1 else if i = 89 + 42 * r then b else if i = 88 + 42 * r then c else if 88 + 42 * r ≤ i ∧ i < 130 + 42 * r then 0 else σ i
theorem s_mzero {σ : Nat → Int} {r : Nat} {x y : Int32} {P : am_M} (hs : sg P = σ) (hr : r < 5) : ∃ Q, g_X10_addRobot_L78 x y (pI r) am_fu (0 : Int32) P = some ((), Q) ∧ fr [175] P Q ∧ sg Q = fun i => if 88 + 42 * r ≤ i ∧ i < 130 + 42 * r then 0 else σ i := by
  obtain ⟨⟨u, Q⟩, g1, f1, e1⟩ := lo_for (fun m (s : Int32 × am_M) => g_X10_addRobot_L78 x y (pI r) m s.1 s.2) (fun q s => s.1 = pI (q : Nat) ∧ fr [175] P s.2 ∧ sg s.2 = fun i => if 88 + 42 * r ≤ i ∧ i < 88 + 42 * r + q then 0 else σ i) (fun s => fr [175] P s.2 ∧ sg s.2 = fun i => if 88 + 42 * r ≤ i ∧ i < 130 + 42 * r then 0 else σ i) 0 42 (pI 0, P) ⟨rfl, fr_refl _ _, by
    rw [hs]
    funext i
    rw [if_neg (by omega)]⟩ (by omega) (by unfold am_fu; omega) (by
    rintro m q ⟨a, N⟩ hq ⟨e1, hf, e⟩
    dsimp only at e1 hf e
    subst e1
    left
    refine ⟨(pI (q + 1 : Nat), am_s N 175 (88 + 42 * r + q) (pI 0)), ?_, rfl, fr_trans hf (fr_s (by simp)), ?_⟩
    · dsimp only
      rw [g_X10_addRobot_L78]
      rw [if_neg (show ¬ ((42 : Int32) ≤ pI (q : Nat)) by show ¬ (pI 42 ≤ _); rw [pi_le (by omega) (by omega) (by omega) (by omega)]; omega), s_rput _ _ (by omega) (by omega), am_b_some, show (88 + 42 * (r : Int) + (q : Int)).toNat = 88 + 42 * r + q by omega, show pI (q : Nat) + (1 : Int32) = pI (q + 1 : Nat) from by rw [show (1 : Int32) = pI 1 from rfl, pi_add]; rfl]
      rfl
    · dsimp only
      rw [sg_up (by omega) (by omega), e]
      funext i
      dsimp only
      by_cases h1 : i = 88 + 42 * r + q
      · rw [if_pos h1, if_pos (by omega)]
      · rw [if_neg h1]
        by_cases h2 : 88 + 42 * r ≤ i ∧ i < 88 + 42 * r + q
        · rw [if_pos h2, if_pos (by omega)]
        · rw [if_neg h2, if_neg (by omega)]) (by
    rintro m ⟨a, N⟩ ⟨e1, hf, e⟩
    dsimp only at e1 hf e
    subst e1
    refine ⟨((), N), ?_, hf, ?_⟩
    · dsimp only
      rw [g_X10_addRobot_L78]
      rfl
    · rw [e]
      funext i
      rw [show 88 + 42 * r + 42 = 130 + 42 * r by omega])
  exact ⟨Q, g1, f1, e1⟩
theorem s_maddRobot {σ : Nat → Int} {c b : Int} {P : am_M} (hs : sg P = σ) (hO : OK σ) (hc1 : -2147483648 ≤ c) (hc2 : c < 2147483648) (hb1 : -2147483648 ≤ b) (hb2 : b < 2147483648) : ∃ (v : Int) (Q : am_M), g_X10_addRobot (pI c) (pI b) P = some (pI v, Q) ∧ fr [174, 175, 180, 181] P Q ∧ (∀ i, i ≠ 0 → iv Q 174 i = iv P 174 i) ∧ iv Q 174 0 = fRo σ c b ∧ (0 ≤ v ∧ v ≤ 5) ∧ (fRo σ c b = 0 → v = σ 6 ∧ sg Q = roF σ (σ 6).toNat c b) ∧ (fRo σ c b ≠ 0 → sg Q = σ) := by
  have h6 := hO.2.2.1
  have hs0 : sg (am_s P 174 0 (pI 0)) = σ := sg_t.trans hs
  have f0 : fr [174, 180, 181] P (am_s P 174 0 (pI 0)) := fr_s (by simp)
  have k0 : ∀ i, i ≠ 0 → iv (am_s P 174 0 (pI 0)) 174 i = iv P 174 i := fun i hi => iv_b hi
  have hno : ∀ (R : am_M) (f : Int), 0 < f ∧ f < 10 → fr [174, 180, 181] P R → (∀ i, i ≠ 0 → iv R 174 i = iv P 174 i) → fRo σ c b = f → ∃ (v : Int) (Q : am_M), (some ((0 : Int32), am_s R 174 0 (pI f)) : Option (Int32 × am_M)) = some (pI v, Q) ∧ fr [174, 175, 180, 181] P Q ∧ (∀ i, i ≠ 0 → iv Q 174 i = iv P 174 i) ∧ iv Q 174 0 = fRo σ c b ∧ (0 ≤ v ∧ v ≤ 5) ∧ (fRo σ c b = 0 → v = σ 6 ∧ sg Q = roF σ (σ 6).toNat c b) ∧ (fRo σ c b ≠ 0 → sg Q = σ) := fun R f hf hfr hk he => by
    refine ⟨0, _, rfl, fr_trans (fr_mono hfr (by simp)) (fr_s (by simp)), fun i hi => by rw [iv_b hi, hk i hi], by rw [iv_a (by omega) (by omega), he], by omega, fun q => by omega, fun _ => ?_⟩
    exact sg_t.trans ((sg_fr hfr (by decide)).trans hs)
  unfold g_X10_addRobot
  rw [show am_s P 174 0 (0 : Int32) = am_s P 174 0 (pI 0) from rfl]
  by_cases h1 : 0 ≤ c ∧ c < 40
  · rw [mcell_t h1, am_b_some, if_neg ci1]
    by_cases h2 : 0 ≤ b ∧ b ≤ 100
    · have m1 : g_X10_in (pI b) (0 : Int32) (100 : Int32) (am_s P 174 0 (pI 0)) = some (pI 1, am_s P 174 0 (pI 0)) := min_t (b := 0) (c := 100) (by omega) (by omega) (by omega) (by omega)
      rw [m1, am_b_some, if_neg ci1]
      by_cases h3 : σ (8 + c.toNat) = 1
      · rw [mwall_t hs0 h1 h3, am_b_some, if_neg ci1]
        exact hno _ 2 (by omega) f0 k0 (by unfold fRo; rw [cif_t h1, cif_f (fun q => q.2 h3)])
      · rw [mwall_f hs0 h1 h3, am_b_some, if_pos ci0, aci _ _ _ (by decide)]
        have e6 : am_g (am_s P 174 0 (pI 0)) 175 (6 : Int32).toNatClampNeg = pI (σ 6) := by show am_g _ 175 6 = _; rw [pi_g, show iv (am_s P 174 0 (pI 0)) 175 6 = σ 6 from congrFun hs0 6]
        rw [e6]
        by_cases h4 : 5 ≤ σ 6
        · rw [if_pos (show pI (σ 6) = (5 : Int32) by rw [show σ 6 = 5 by omega]; rfl)]
          exact hno _ 3 (by omega) f0 k0 (by unfold fRo; rw [cif_t h1, cif_t ⟨h2, h3⟩, cif_t (Or.inl h4)])
        · rw [if_neg (show ¬ (pI (σ 6) = (5 : Int32)) from fun q => by have := (pi_eq (b := 5) (by omega) (by omega) (by omega) (by omega)).mp q; omega)]
          obtain ⟨N, g2, f2⟩ := s_isUsed (c := c) hs0 hO h1
          have hsN : sg N = σ := (sg_fr f2 (by decide)).trans hs0
          have fN : fr [174, 180, 181] P N := fr_trans f0 (fr_mono f2 (by simp))
          have kN : ∀ i, i ≠ 0 → iv N 174 i = iv P 174 i := fun i hi => by rw [fr_i f2 (by decide), k0 i hi]
          rw [g2, am_b_some]
          by_cases h5 : met σ c (-1)
          · rw [b01_t h5, if_neg ci1]
            exact hno N 3 (by omega) fN kN (by unfold fRo; rw [cif_t h1, cif_t ⟨h2, h3⟩, cif_t (Or.inr h5)])
          · have hf : fRo σ c b = 0 := by unfold fRo; rw [cif_t h1, cif_t ⟨h2, h3⟩, cif_f (fun q => q.elim h4 h5)]
            obtain ⟨r, er⟩ : ∃ r : Nat, σ 6 = r := ⟨(σ 6).toNat, by omega⟩
            have e7 : am_g N 175 (6 : Int32).toNatClampNeg = pI (r : Nat) := by show am_g _ 175 6 = _; rw [pi_g, show iv N 175 6 = σ 6 from congrFun hsN 6, er]
            obtain ⟨Q1, g3, f3, s3⟩ := s_mzero (x := pI c) (y := pI b) (r := r) hsN (by omega)
            obtain ⟨Q, eQ⟩ : ∃ Q, Q = am_s (am_s (am_s (am_s Q1 175 (88 + 42 * r) (pI c)) 175 (89 + 42 * r) (pI b)) 175 (92 + 42 * r) (pI (-1))) 175 6 (pI ((r : Int) + 1)) := ⟨_, rfl⟩
            have fNQ : fr [175] N Q := by rw [eQ]; exact fr_trans f3 (fr_trans (fr_s (by simp)) (fr_trans (fr_s (by simp)) (fr_trans (fr_s (by simp)) (fr_s (by simp)))))
            rw [b01_f h5, if_pos ci0, aci _ _ _ (by decide), e7, g3, am_b_some, er, Int.toNat_natCast]
            refine ⟨r, Q, ?_, fr_trans (fr_mono fN (by simp)) (fr_mono fNQ (by simp)), fun i hi => by rw [fr_i fNQ (by simp), kN i hi], by rw [fr_i fNQ (by simp), fr_i f2 (by decide), iv_a (by omega) (by omega), hf], by omega, fun _ => ⟨rfl, ?_⟩, fun q => absurd hf q⟩
            · rw [show (0 : Int32) = pI 0 from rfl, s_rput _ _ (by omega) (by omega), am_b_some, show (1 : Int32) = pI 1 from rfl, s_rput _ _ (by omega) (by omega), am_b_some, show (4 : Int32) = pI 4 from rfl, s_rput _ _ (by omega) (by omega), am_b_some, aci _ _ _ (by decide), aci _ _ _ (by decide), show (88 + 42 * (r : Int) + 0).toNat = 88 + 42 * r by omega, show (88 + 42 * (r : Int) + 1).toNat = 89 + 42 * r by omega, show (88 + 42 * (r : Int) + 4).toNat = 92 + 42 * r by omega]
              have e8 : ∀ X : am_M, am_g X 175 (6 : Int32).toNatClampNeg = pI (iv X 175 6) := fun X => pi_g X 175 6
              have e9 : iv Q1 175 6 = r := by
                have := congrFun s3 6
                rw [if_neg (by omega), er] at this
                exact this
              rw [e8, iv_b (by omega), iv_b (by omega), iv_b (by omega), e9, pi_add, eQ]
              rfl
            · rw [eQ, sg_up (by omega) (by omega), sg_up (by omega) (by omega), sg_up (by omega) (by omega), sg_up (by omega) (by omega), s3]
              rfl
    · have m1 : g_X10_in (pI b) (0 : Int32) (100 : Int32) (am_s P 174 0 (pI 0)) = some (pI 0, am_s P 174 0 (pI 0)) := min_f (b := 0) (c := 100) (by omega) (by omega) (by omega) (by omega) (by omega) (by omega) h2
      rw [m1, am_b_some, if_pos ci0]
      exact hno _ 2 (by omega) f0 k0 (by unfold fRo; rw [cif_t h1, cif_f (fun q => h2 q.1)])
  · rw [mcell_f hc1 hc2 h1, am_b_some, if_pos ci0]
    exact hno _ 1 (by omega) f0 k0 (by unfold fRo; rw [cif_f h1])
end RF2
