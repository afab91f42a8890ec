/-! setCell -/
section RC
noncomputable def fK (σ : Nat → Int) (c k : Int) : Int := cif (0 ≤ c ∧ c < 40) (cif (0 ≤ k ∧ k ≤ 2) (cif (k = 1 ∧ (endp σ c ∨ met σ c (-1))) 3 0) 2) 1
theorem fK_rng (σ : Nat → Int) (c k : Int) : fK σ c k = 0 ∨ fK σ c k = 1 ∨ fK σ c k = 2 ∨ fK σ c k = 3 := by
  unfold fK
  by_cases h1 : 0 ≤ c ∧ c < 40
  · rw [cif_t h1]
    by_cases h2 : 0 ≤ k ∧ k ≤ 2
    · rw [cif_t h2]
      by_cases h3 : k = 1 ∧ (endp σ c ∨ met σ c (-1))
      · rw [cif_t h3]; omega
      · rw [cif_f h3]; omega
    · rw [cif_f h2]; omega
  · rw [cif_f h1]; omega
theorem fK_ok {σ : Nat → Int} {c k : Int} (h : fK σ c k = 0) : (0 ≤ c ∧ c < 40) ∧ (0 ≤ k ∧ k ≤ 2) ∧ ¬ (k = 1 ∧ (endp σ c ∨ met σ c (-1))) := by
  unfold fK at h
  by_cases h1 : 0 ≤ c ∧ c < 40
  · rw [cif_t h1] at h
    by_cases h2 : 0 ≤ k ∧ k ≤ 2
    · rw [cif_t h2] at h
      by_cases h3 : k = 1 ∧ (endp σ c ∨ met σ c (-1))
      · rw [cif_t h3] at h; omega
      · exact ⟨h1, h2, h3⟩
    · rw [cif_f h2] at h; omega
  · rw [cif_f h1] at h; omega
theorem s_makeKind {σ : Nat → Int} {c k : Int} {M : am_M} (hW : WD σ 1 M) (hO : OK σ) (hc1 : -2147483648 ≤ c) (hc2 : c < 2147483648) (hk1 : -2147483648 ≤ k) (hk2 : k < 2147483648) : g_X8_makeKind 1 (pI c) (pI k) M = some (pI (fK σ c k), if fK σ c k = 0 then am_s M 3 c.toNat (pI k) else M) := by
  unfold g_X8_makeKind
  have cl0 : (pI k < (0 : Int32)) = (k < 0) := pi_lt (b := 0) hk1 hk2 (by omega) (by omega)
  have cl2 : (pI k ≤ (2 : Int32)) = (k ≤ 2) := pi_le (b := 2) hk1 hk2 (by omega) (by omega)
  have cl1 : (pI k = (1 : Int32)) = (k = 1) := pi_eq (b := 1) hk1 hk2 (by omega) (by omega)
  rw [s_isCell M hc1 hc2, am_b_some]
  by_cases h1 : 0 ≤ c ∧ c < 40
  · rw [if_pos h1, if_neg ci1]
    simp only [cl0, cl2, cl1]
    by_cases h2 : 0 ≤ k ∧ k ≤ 2
    · rw [if_neg (show ¬ k < 0 by omega), if_pos h2.2]
      have gput : g_X9_put (1 + 1 + 1) 40 (pI c) (pI k) M = some ((), am_s M 3 c.toNat (pI k)) := s_put _ _ _ _ h1.1 h1.2 (by omega)
      by_cases h3 : k = 1
      · rw [if_pos h3, show (1 + 1 : Nat) = 2 from rfl, s_isLiftEnd hW hO.2.1 h1, am_b_some]
        by_cases h4 : endp σ c
        · have : fK σ c k = 3 := by unfold fK; rw [cif_t h1, cif_t h2, cif_t ⟨h3, Or.inl h4⟩]
          rw [b01_t h4, if_neg ci1, this, if_neg (by omega)]
          rfl
        · rw [b01_f h4, if_pos ci0, show (-1 : Int32) = pI (-1) from rfl, s_isMet hW hO (by omega) (by omega), am_b_some]
          by_cases h5 : met σ c (-1)
          · have : fK σ c k = 3 := by unfold fK; rw [cif_t h1, cif_t h2, cif_t ⟨h3, Or.inr h5⟩]
            rw [b01_t h5, if_neg ci1, this, if_neg (by omega)]
            rfl
          · have : fK σ c k = 0 := by unfold fK; rw [cif_t h1, cif_t h2, cif_f (fun q => q.2.elim h4 h5)]
            rw [b01_f h5, if_pos ci0, this, if_pos rfl]
            rw [show (2 + 1 : Nat) = 1 + 1 + 1 from rfl, gput, am_b_some]
            rfl
      · have : fK σ c k = 0 := by unfold fK; rw [cif_t h1, cif_t h2, cif_f (fun q => h3 q.1)]
        rw [if_neg h3, this, if_pos rfl, gput, am_b_some]
        rfl
    · have : fK σ c k = 2 := by unfold fK; rw [cif_t h1, cif_f h2]
      rw [this, if_neg (show ¬ ((2 : Int) = 0) by omega)]
      by_cases h3 : k < 0
      · rw [if_pos h3]; rfl
      · rw [if_neg h3, if_neg (by omega)]; rfl
  · have : fK σ c k = 1 := by unfold fK; rw [cif_f h1]
    rw [if_neg h1, if_pos ci0, this, if_neg (by omega)]
    rfl
def kdF (σ : Nat → Int) (c : Nat) (k : Int) : Nat → Int := fun i => if i = 8 + c then k else σ i
/-- the model's setCell -/
theorem s_msetCell {σ : Nat → Int} {c k : Int} {P : am_M} (hs : sg P = σ) (hO : OK σ) (hc1 : -2147483648 ≤ c) (hc2 : c < 2147483648) (hk1 : -2147483648 ≤ k) (hk2 : k < 2147483648) : ∃ (v : Int) (Q : am_M), g_X10_setCell (pI c) (pI k) P = some (pI v, Q) ∧ fr [174, 175, 180, 181] P Q ∧ (∀ i, i ≠ 0 → iv Q 174 i = iv P 174 i) ∧ iv Q 174 0 = fK σ c k ∧ (0 ≤ v ∧ v ≤ 2) ∧ (fK σ c k = 0 → v = σ (8 + c.toNat) ∧ sg Q = kdF σ c.toNat k) ∧ (fK σ c k ≠ 0 → sg Q = σ) := by
  have cl1 : (pI k = (1 : Int32)) = (k = 1) := pi_eq (b := 1) hk1 hk2 (by omega) (by omega)
  have hs0 : sg (am_s P 174 0 (pI 0)) = σ := sg_t.trans hs
  have hno : ∀ (R : am_M) (f : Int), 0 < f ∧ f < 10 → fr [174, 180, 181] P R → (∀ i, i ≠ 0 → iv R 174 i = iv P 174 i) → fK σ c k = f → ∃ (v : Int) (Q : am_M), (some ((0 : Int32), am_s R 174 0 (pI f)) : Option (Int32 × am_M)) = some (pI v, Q) ∧ fr [174, 175, 180, 181] P Q ∧ (∀ i, i ≠ 0 → iv Q 174 i = iv P 174 i) ∧ iv Q 174 0 = fK σ c k ∧ (0 ≤ v ∧ v ≤ 2) ∧ (fK σ c k = 0 → v = σ (8 + c.toNat) ∧ sg Q = kdF σ c.toNat k) ∧ (fK σ c k ≠ 0 → sg Q = σ) := fun R f hf hfr hk he => by
    refine ⟨0, _, rfl, fr_trans (fr_mono hfr (by simp)) (fr_s (by simp)), fun i hi => by rw [iv_b hi, hk i hi], by rw [iv_a (by omega) (by omega), he], by omega, fun q => by omega, fun _ => ?_⟩
    exact sg_t.trans ((sg_fr hfr (by decide)).trans hs)
  have hyes : ∀ (R : am_M), fr [174, 180, 181] P R → (∀ i, i ≠ 0 → iv R 174 i = iv P 174 i) → iv R 174 0 = 0 → fK σ c k = 0 → ∃ (v : Int) (Q : am_M), g_X10_setCell_J60 (pI c) (pI k) R = some (pI v, Q) ∧ fr [174, 175, 180, 181] P Q ∧ (∀ i, i ≠ 0 → iv Q 174 i = iv P 174 i) ∧ iv Q 174 0 = fK σ c k ∧ (0 ≤ v ∧ v ≤ 2) ∧ (fK σ c k = 0 → v = σ (8 + c.toNat) ∧ sg Q = kdF σ c.toNat k) ∧ (fK σ c k ≠ 0 → sg Q = σ) := fun R hfr hk h0 he => by
    obtain ⟨h1, h2, h3⟩ := fK_ok he
    have hsR : sg R = σ := (sg_fr hfr (by decide)).trans hs
    refine ⟨σ (8 + c.toNat), am_s R 175 (8 + c.toNat) (pI k), ?_, fr_trans (fr_mono hfr (by simp)) (fr_s (by simp)), fun i hi => by rw [iv_c (by decide), hk i hi], by rw [iv_c (by decide), h0, he], hO.2.2.2.2.1 c.toNat (by omega), fun _ => ⟨rfl, ?_⟩, fun q => absurd he q⟩
    · unfold g_X10_setCell_J60
      have c1 : (8 : Int32) + pI c = pI (8 + c) := by rw [show (8 : Int32) = pI 8 from rfl, pi_add]
      rw [c1, pi_ci (by omega) (by omega) (by omega), pi_ci (by omega) (by omega) (by omega), pi_cn (by omega) (by omega), show (8 + c).toNat = 8 + c.toNat by omega, pi_g, show iv R 175 (8 + c.toNat) = σ (8 + c.toNat) from congrFun hsR _]
    · rw [sg_up (by omega) (by omega), hsR]
      rfl
  have f0 : fr [174, 180, 181] P (am_s P 174 0 (pI 0)) := fr_s (by simp)
  have k0 : ∀ i, i ≠ 0 → iv (am_s P 174 0 (pI 0)) 174 i = iv P 174 i := fun i hi => iv_b hi
  unfold g_X10_setCell
  rw [show am_s P 174 0 (0 : Int32) = am_s P 174 0 (pI 0) from rfl]
  by_cases h1 : 0 ≤ c ∧ c < 40
  · rw [mcell_t h1, am_b_some, if_neg ci1]
    by_cases h2 : 0 ≤ k ∧ k ≤ 2
    · have m1 : g_X10_in (pI k) (0 : Int32) (2 : Int32) (am_s P 174 0 (pI 0)) = some (pI 1, am_s P 174 0 (pI 0)) := min_t (b := 0) (c := 2) (by omega) (by omega) (by omega) (by omega)
      rw [m1, am_b_some, if_neg ci1]
      by_cases h3 : k = 1
      · rw [if_pos (show pI k = (1 : Int32) by rw [cl1]; exact h3)]
        obtain ⟨N, g2, f2⟩ := s_isUsed (c := c) hs0 hO h1
        have hsN : sg N = σ := (sg_fr f2 (by decide)).trans hs0
        have fN : fr [174, 180, 181] P N := fr_trans f0 (fr_mono f2 (by simp))
        have kN : ∀ i, i ≠ 0 → iv N 174 i = iv P 174 i := fun i hi => by rw [fr_i f2 (by decide), k0 i hi]
        rw [g2, am_b_some]
        by_cases h5 : met σ c (-1)
        · have : fK σ c k = 3 := by unfold fK; rw [cif_t h1, cif_t h2, cif_t ⟨h3, Or.inr h5⟩]
          rw [b01_t h5, if_neg ci1]
          exact hno N 3 (by omega) fN kN this
        · rw [b01_f h5, if_pos ci0, s_isEnd hsN hO.2.1 h1, am_b_some]
          by_cases h4 : endp σ c
          · have : fK σ c k = 3 := by unfold fK; rw [cif_t h1, cif_t h2, cif_t ⟨h3, Or.inl h4⟩]
            rw [b01_t h4, if_neg ci1]
            exact hno N 3 (by omega) fN kN this
          · have : fK σ c k = 0 := by unfold fK; rw [cif_t h1, cif_t h2, cif_f (fun q => q.2.elim h4 h5)]
            rw [b01_f h4, if_pos ci0]
            exact hyes N fN kN (by rw [fr_i f2 (by decide), iv_a (by omega) (by omega)]) this
      · rw [if_neg (show ¬ (pI k = (1 : Int32)) by rw [cl1]; exact h3)]
        have : fK σ c k = 0 := by unfold fK; rw [cif_t h1, cif_t h2, cif_f (fun q => h3 q.1)]
        exact hyes _ f0 k0 (iv_a (by omega) (by omega)) this
    · have m1 : g_X10_in (pI k) (0 : Int32) (2 : Int32) (am_s P 174 0 (pI 0)) = some (pI 0, am_s P 174 0 (pI 0)) := min_f (b := 0) (c := 2) (by omega) (by omega) (by omega) (by omega) (by omega) (by omega) h2
      have : fK σ c k = 2 := by unfold fK; rw [cif_t h1, cif_f h2]
      rw [m1, am_b_some, if_pos ci0]
      exact hno _ 2 (by omega) f0 k0 this
  · have : fK σ c k = 1 := by unfold fK; rw [cif_f h1]
    rw [mcell_f hc1 hc2 h1, am_b_some, if_pos ci0]
    exact hno _ 1 (by omega) f0 k0 this
theorem met_late {σ : Nat → Int} (hO : OK σ) {c : Int} (h : ¬ met σ c (-1)) {r : Nat} (hr : (r : Int) < σ 6) (t : Nat) : fp σ r t ≠ c := by
  intro e
  by_cases ht : t ≤ 30
  · exact h ⟨r, hr, by omega, t, ht, e⟩
  · have hw := (hO.2.2.2.2.2.1 r hr).1
    rw [(fp_30 hw (t := t) (by omega)).1, ← (fp_30 hw (t := 30) (by omega)).1] at e
    exact h ⟨r, hr, by omega, 30, by omega, e⟩
/-- the row and the world with a cell of another kind -/
theorem kd_new {σ : Nat → Int} {c k : Int} {M : am_M} (hO : OK σ) (hW : WD σ 1 M) (h : fK σ c k = 0) : OK (kdF σ c.toNat k) ∧ WD (kdF σ c.toNat k) 1 (am_s M 3 c.toNat (pI k)) := by
  obtain ⟨h1, h2, h3⟩ := fK_ok h
  have hO' := hO
  obtain ⟨hC, hwl, h6, h7, hkd, hRF, hTF, hNC⟩ := hO
  have hlow : ∀ i : Nat, i < 8 → kdF σ c.toNat k i = σ i := fun i hi => by unfold kdF; rw [if_neg (by omega)]
  have hhi : ∀ i : Nat, 48 ≤ i → kdF σ c.toNat k i = σ i := fun i hi => by unfold kdF; rw [if_neg (by omega)]
  have hk6 : ∀ i : Nat, i < 6 → kdF σ c.toNat k i = σ i := fun i hi => hlow i (by omega)
  have hro : ∀ o k' : Nat, ro (kdF σ c.toNat k) o k' = ro σ o k' := fun o k' => by rw [ro_nat, ro_nat, hhi _ (by omega)]
  have hit : ∀ j k' : Nat, it (kdF σ c.toNat k) j k' = it σ j k' := fun j k' => by rw [it_nat, it_nat, hhi _ (by omega)]
  have hSR : ∀ o : Nat, SR σ (kdF σ c.toNat k) o := fun o k' _ _ => hro o k'
  have hfp : ∀ o : Nat, (o : Int) < σ 6 → ∀ t, fp (kdF σ c.toNat k) o t = fp σ o t := fun o ho t => fp_SR hk6 hwl (hSR o) (hRF o ho).1 t
  have hTB : ∀ j : Nat, (j : Int) < σ 7 → ∀ N, TB σ 1 j N → TB (kdF σ c.toNat k) 1 j N := fun j hj N hN => (TB_iff (w := 1) (fun k' => it σ j k') (fun k' _ => hit j k')).mpr ((TB_iff (w := 1) (fun k' => it σ j k') (fun k' _ => rfl)).mp hN)
  have e6 := hlow 6 (by omega)
  have e7 := hlow 7 (by omega)
  have e0 := hlow 0 (by omega)
  have hfr : fr [3] M (am_s M 3 c.toNat (pI k)) := fr_s (by simp)
  constructor
  · refine ⟨by rw [e0]; exact hC, wl_congr hk6 hwl, by rw [e6]; exact h6, by rw [e7]; exact h7, fun d hd => ?_, fun r hr => ?_, fun j hj => ?_, fun r o hr ho hne t ht => ?_⟩
    · unfold kdF
      by_cases q : 8 + d = 8 + c.toNat
      · rw [if_pos q]; exact h2
      · rw [if_neg q]; exact hkd d hd
    · rw [e6] at hr
      obtain ⟨q1, q2, q3, q4, q5⟩ := hRF r hr
      have r2 : ro (kdF σ c.toNat k) r 2 = ro σ r 2 := hro r 2
      have r4 : ro (kdF σ c.toNat k) r 4 = ro σ r 4 := hro r 4
      have r10 : ro (kdF σ c.toNat k) r 10 = ro σ r 10 := hro r 10
      have r77 : ro (kdF σ c.toNat k) r 7 = ro σ r 7 := hro r 7
      refine ⟨wr_SR hk6 hwl (hSR r) q1, fun t ht => ?_, by rw [r10, r77, e0]; exact q3, by rw [r4, e7]; exact q4, fun h4 => ?_⟩
      · have hrg := fp_rng q1 t
        rw [hfp r hr] at ht ⊢
        unfold kdF
        by_cases q : (8 + fp σ r t).toNat = 8 + c.toNat
        · rw [if_pos q]
          intro hk1
          exact met_late hO' (fun m => h3 ⟨hk1, Or.inr m⟩) hr t (by omega)
        · rw [if_neg q]
          exact q2 t ht
      · rw [r4] at h4 ⊢
        obtain ⟨a1, a2, a3⟩ := q5 h4
        obtain ⟨t, et⟩ : ∃ t : Nat, ro σ r 4 = t := ⟨(ro σ r 4).toNat, by omega⟩
        rw [et] at a2 a3 ⊢
        have i4 : it (kdF σ c.toNat k) t 4 = it σ t 4 := hit t 4
        have i6 : it (kdF σ c.toNat k) t 6 = it σ t 6 := hit t 6
        rw [r2, i4, i6]
        exact ⟨a1, a2, a3⟩
    · rw [e7] at hj
      have i0 : it (kdF σ c.toNat k) j 0 = it σ j 0 := hit j 0
      have i1 : it (kdF σ c.toNat k) j 1 = it σ j 1 := hit j 1
      have i2 : it (kdF σ c.toNat k) j 2 = it σ j 2 := hit j 2
      have i3 : it (kdF σ c.toNat k) j 3 = it σ j 3 := hit j 3
      have i4 : it (kdF σ c.toNat k) j 4 = it σ j 4 := hit j 4
      have i6 : it (kdF σ c.toNat k) j 6 = it σ j 6 := hit j 6
      unfold TF
      rw [i0, i1, i2, i3, i4, i6]
      exact hTF j hj
    · rw [e6] at hr ho
      rw [hfp r hr] at ht ⊢
      rw [hfp o ho]
      exact hNC r o hr ho hne t ht
  · obtain ⟨⟨F1, F2, F3, F4⟩, W2, W3, W4, W5⟩ := hW
    refine ⟨⟨?_, fun i hi => ?_, fun d hd => ?_, fun d a hd ha => ?_⟩, ?_, fun d hd => ?_, fun i hi => ?_, fun j hj => ?_⟩
    · rw [hlow 1 (by omega), iv_c (by decide)]; exact F1
    · rw [hlow 1 (by omega)] at hi
      have := hwl.1
      rw [hlow _ (by omega), iv_c (by decide)]
      exact F2 i hi
    · rw [show (1 + 2 : Nat) = 3 from rfl, iv_s (by omega) (by omega)]
      unfold kdF
      by_cases q : d = c.toNat
      · rw [if_pos ⟨rfl, q⟩, if_pos (by omega)]
      · rw [if_neg (fun z => q z.2), if_neg (by omega)]
        exact F3 d hd
    · rw [mvs_congr hk6 hwl, iv_c (by decide)]
      exact F4 d a hd ha
    · rw [e6, e7, e0, iv_c (by decide), iv_c (by decide), iv_c (by decide)]
      exact W2
    · rw [hhi _ (by omega), iv_c (by decide)]
      exact W3 d hd
    · rw [e6] at hi
      exact RB_SR hk6 hwl (fun k' _ => hro i k') (hRF i hi).1.1.2 (RB_fr (W4 i hi) hfr (fun a b1 b2 => by simp; omega))
    · rw [e7] at hj
      exact hTB j hj _ (TB_fr (W5 j hj) hfr (by simp; omega))
theorem cs_setCell {M : am_M} (hI : INV M) (a b : Int32) : CS (g_L_setCell a b M) (g_X10_setCell a b) := by
  obtain ⟨c, rfl, hc1, hc2⟩ := pi_cast a
  obtain ⟨k, rfl, hk1, hk2⟩ := pi_cast b
  have hO := hI.1
  have g1 := s_makeKind hI.2.1 hO hc1 hc2 hk1 hk2
  have h9 : g_X9_setCell (pI c) (pI k) M = am_bx (g_X9_raise (pI (fK (sg M) c k)) (if fK (sg M) c k = 0 then am_s M 3 c.toNat (pI k) else M)) (fun _ M8 => some ((.inl (pI (if 0 ≤ c ∧ c < 40 then iv M 3 c.toNat else 0)) : Int32 ⊕ Nat), M8)) := by
    unfold g_X9_setCell
    have g0 := s_at (1 + 1 + 1) 40 (i := c) M hc1 hc2 (by omega)
    rw [g0, am_b_some, g1, am_b_some]
    rfl
  by_cases hf : fK (sg M) c k = 0
  · obtain ⟨h1, h2, h3⟩ := fK_ok hf
    obtain ⟨n1, n2⟩ := kd_new hO hI.2.1 hf
    rw [hf, if_pos rfl, if_pos h1] at h9
    have hv : iv M 3 c.toNat = sg M (8 + c.toNat) := hI.2.1.1.2.2.1 c.toNat (by omega)
    obtain ⟨v, Q, g2, f2, k2, t0, v1, v2, v3⟩ := s_msetCell (P := am_ls (am_s M 3 c.toNat (pI k)) 186 0 (pI (sg M (8 + c.toNat))).toInt64) (σ := sg M) (show sg (am_s M 3 c.toNat (pI k)) = sg M from sg_s (by decide)) hO hc1 hc2 hk1 hk2
    obtain ⟨e1, e2⟩ := v2 hf
    have fNQ : fr [174, 175, 180, 181, 186] (am_s M 3 c.toNat (pI k)) Q := fr_trans (N := am_ls (am_s M 3 c.toNat (pI k)) 186 0 (pI (sg M (8 + c.toNat))).toInt64) (fr_ls (by simp)) (fr_mono f2 (by simp))
    have hk : ∀ i, i ≠ 0 → iv Q 174 i = iv M 174 i := fun i hi => by
      rw [k2 i hi]
      show iv (am_s M 3 c.toNat (pI k)) 174 i = _
      rw [iv_c (by decide)]
    have hIQ : INV Q := INV_set hI (by rw [e2]; exact n1) (by
      rw [e2]
      exact WD_fr n2 n1.2.2.1.2 n1.2.2.2.1.2 fNQ (by intro z z1 z2 z3; simp at z3; omega)) (fr_trans (fr_mono (fr_s (X := [3]) (by simp)) (by decide)) (fr_mono fNQ (by decide))) (hk 4 (by omega)) (hk 7 (by omega)) (hk 8 (by omega)) (hk 11 (by omega))
    refine CS_yes (O := am_s M 3 c.toNat (pI k)) (v := pI (sg M (8 + c.toNat))) (Q := Q) ?_ ?_ (by rw [t0, hf]) (fr_l f2 (by decide) 0) hIQ
    · unfold g_L_setCell
      rw [h9, hv]
      rfl
    · rw [g2, e1]
  · rw [if_neg hf] at h9
    obtain ⟨v, Q, g2, f2, k2, t0, v1, v2, v3⟩ := s_msetCell (P := M) (σ := sg M) rfl hO hc1 hc2 hk1 hk2
    have hIQ : INV Q := INV_set hI (by rw [v3 hf]; exact hO) (by
      rw [v3 hf]
      exact WD_fr hI.2.1 hO.2.2.1.2 hO.2.2.2.1.2 f2 (by intro z z1 z2 z3; simp at z3; omega)) (fr_mono f2 (by decide)) (k2 4 (by omega)) (k2 7 (by omega)) (k2 8 (by omega)) (k2 11 (by omega))
    rcases fK_rng (sg M) c k with q | q | q | q
    · exact absurd q hf
    · refine CS_no (M := M) (k := 1) (P := M) (Q := Q) (v := pI v) ?_ g2 (by rw [t0, q]) (by decide) hIQ
      unfold g_L_setCell
      rw [h9, q]
      rfl
    · refine CS_no (M := M) (k := 2) (P := M) (Q := Q) (v := pI v) ?_ g2 (by rw [t0, q]) (by decide) hIQ
      unfold g_L_setCell
      rw [h9, q]
      rfl
    · refine CS_no (M := M) (k := 3) (P := M) (Q := Q) (v := pI v) ?_ g2 (by rw [t0, q]) (by decide) hIQ
      unfold g_L_setCell
      rw [h9, q]
      rfl
end RC
