/-! the case clear; rows that agree -/
section RR
theorem OK_agree {σ τ : Nat → Int} (h : ∀ k : Nat, k < 406 → τ k = σ k) (hO : OK σ) : OK τ := by
  obtain ⟨hC, hwl, h6, h7, hkd, hRF, hTF, hNC⟩ := hO
  have e0 := h 0 (by omega)
  have e6 := h 6 (by omega)
  have e7 := h 7 (by omega)
  have hk6 : ∀ k : Nat, k < 6 → τ k = σ k := fun k hk => h k (by omega)
  have hro : ∀ o k : Nat, o < 5 → k < 42 → ro τ o k = ro σ o k := fun o k ho hk => by rw [ro_nat, ro_nat, h _ (by omega)]
  have hit : ∀ j k : Nat, j < 12 → k < 9 → it τ j k = it σ j k := fun j k hj hk => by rw [it_nat, it_nat, h _ (by omega)]
  have hSR : ∀ o : Nat, o < 5 → SR σ τ o := fun o ho k hk _ => hro o k ho hk
  refine ⟨by rw [e0]; exact hC, wl_congr hk6 hwl, by rw [e6]; exact h6, by rw [e7]; exact h7, fun c hc => by rw [h _ (by omega)]; exact hkd c hc, fun r hr => ?_, fun j hj => ?_, fun r o hr ho hne t ht => ?_⟩
  · rw [e6] at hr
    obtain ⟨q1, q2, q3, q4, q5⟩ := hRF r hr
    have r2 : ro τ r 2 = ro σ r 2 := hro r 2 (by omega) (by omega)
    have r4 : ro τ r 4 = ro σ r 4 := hro r 4 (by omega) (by omega)
    have r10 : ro τ r 10 = ro σ r 10 := hro r 10 (by omega) (by omega)
    have r77 : ro τ r 7 = ro σ r 7 := hro r 7 (by omega) (by omega)
    refine ⟨wr_SR hk6 hwl (hSR r (by omega)) q1, fun t ht => ?_, by rw [r10, r77, e0]; exact q3, by rw [r4, e7]; exact q4, fun h4 => ?_⟩
    · have hrg := fp_rng q1 t
      rw [fp_SR hk6 hwl (hSR r (by omega)) q1] at ht ⊢
      rw [h _ (by omega)]
      exact q2 t ht
    · rw [r4] at h4 ⊢
      obtain ⟨a1, a2, a3⟩ := q5 h4
      obtain ⟨t, et⟩ : ∃ t : Nat, ro σ r 4 = t := ⟨(ro σ r 4).toNat, by omega⟩
      rw [et] at a2 a3 q4 ⊢
      have i4 : it τ t 4 = it σ t 4 := hit t 4 (by omega) (by omega)
      have i6 : it τ t 6 = it σ t 6 := hit t 6 (by omega) (by omega)
      rw [r2, i4, i6]
      exact ⟨a1, a2, a3⟩
  · rw [e7] at hj
    have i0 : it τ j 0 = it σ j 0 := hit j 0 (by omega) (by omega)
    have i1 : it τ j 1 = it σ j 1 := hit j 1 (by omega) (by omega)
    have i2 : it τ j 2 = it σ j 2 := hit j 2 (by omega) (by omega)
    have i3 : it τ j 3 = it σ j 3 := hit j 3 (by omega) (by omega)
    have i4 : it τ j 4 = it σ j 4 := hit j 4 (by omega) (by omega)
    have i6 : it τ j 6 = it σ j 6 := hit j 6 (by omega) (by omega)
    unfold TF
    rw [i0, i1, i2, i3, i4, i6]
    exact hTF j hj
  · rw [e6] at hr ho
    rw [fp_SR hk6 hwl (hSR r (by omega)) (hRF r hr).1] at ht ⊢
    rw [fp_SR hk6 hwl (hSR o (by omega)) (hRF o ho).1]
    exact hNC r o hr ho hne t ht
theorem WD_agree {σ τ : Nat → Int} {w : Nat} {M : am_M} (h : ∀ k : Nat, k < 406 → τ k = σ k) (hO : OK σ) (hW : WD σ w M) : WD τ w M := by
  obtain ⟨hC, hwl, h6, h7, hkd, hRF, hTF, hNC⟩ := hO
  obtain ⟨⟨F1, F2, F3, F4⟩, W2, W3, W4, W5⟩ := hW
  have hk6 : ∀ k : Nat, k < 6 → τ k = σ k := fun k hk => h k (by omega)
  have hl := hwl.1
  refine ⟨⟨by rw [h 1 (by omega)]; exact F1, fun k hk => ?_, fun c hc => by rw [h _ (by omega)]; exact F3 c hc, fun c a hc ha => by rw [mvs_congr hk6 hwl]; exact F4 c a hc ha⟩, by rw [h 6 (by omega), h 7 (by omega), h 0 (by omega)]; exact W2, fun c hc => by rw [h _ (by omega)]; exact W3 c hc, fun i hi => ?_, fun j hj => ?_⟩
  · rw [h 1 (by omega)] at hk
    rw [h _ (by omega)]
    exact F2 k hk
  · rw [h 6 (by omega)] at hi
    exact RB_SR hk6 hwl (fun k hk => by rw [ro_nat, ro_nat, h _ (by omega)]) (hRF i hi).1.1.2 (W4 i hi)
  · rw [h 7 (by omega)] at hj
    exact (TB_iff (fun k => it σ j k) (fun k hk => by rw [it_nat, it_nat, h _ (by omega)])).mpr ((TB_iff (fun k => it σ j k) (fun k _ => rfl)).mp (W5 j hj))
/-- an empty floor -/
theorem s_empty {t : Nat} (M : am_M) (ht : t < 1000) : ∃ N, g_X1_empty t M = some ((), N) ∧ fr [t, t + 1, t + 2, t + 3] M N ∧ iv N t 3 = 0 ∧ (∀ k, k ≠ 3 → iv N t k = iv M t k) ∧ (∀ c, c < 40 → iv N (t + 1) c = 0) ∧ ∀ c a : Nat, c < 40 → a < 7 → iv N (t + 2) (7 * c + a) = if a = 0 then (c : Int) else nb c a := by
  obtain ⟨N1, g1, f1, p1⟩ := s_fill (t + 1) 40 (v := 0) M (by omega) (by omega) (by omega)
  obtain ⟨N2, g2, f2, p2⟩ := s_fill (t + 3) 4 (v := -1) N1 (by omega) (by omega) (by omega)
  have inner : ∀ (c : Nat) (P : am_M), c < 40 → ∃ Q, g_X1_empty_L31 t (pI c) am_fu (pI 0) P = some ((), Q) ∧ fr [t + 2] P Q ∧ (∀ k, k < 7 * c ∨ 7 * c + 7 ≤ k → iv Q (t + 2) k = iv P (t + 2) k) ∧ ∀ a : Nat, a < 7 → iv Q (t + 2) (7 * c + a) = if a = 0 then (c : Int) else nb c a := fun c P hc => by
    obtain ⟨⟨u, Q⟩, g3, f3, k3, p3⟩ := lo_for (fun m (s : Int32 × am_M) => g_X1_empty_L31 t (pI c) m s.1 s.2) (fun q s => s.1 = pI (q : Nat) ∧ fr [t + 2] P s.2 ∧ (∀ k, k < 7 * c ∨ 7 * c + 7 ≤ k → iv s.2 (t + 2) k = iv P (t + 2) k) ∧ ∀ a : Nat, a < q → iv s.2 (t + 2) (7 * c + a) = if a = 0 then (c : Int) else nb c a) (fun s => fr [t + 2] P s.2 ∧ (∀ k, k < 7 * c ∨ 7 * c + 7 ≤ k → iv s.2 (t + 2) k = iv P (t + 2) k) ∧ ∀ a : Nat, a < 7 → iv s.2 (t + 2) (7 * c + a) = if a = 0 then (c : Int) else nb c a) 0 7 (pI 0, P) ⟨rfl, fr_refl _ _, fun k _ => rfl, fun a ha => by omega⟩ (by omega) (by unfold am_fu; omega) (by
      rintro m q ⟨b, Q⟩ hq ⟨e, hf, hk, hp⟩
      dsimp only at e hf hk hp
      subst e
      left
      have hnr := nb_rng (c := (c : Int)) (a := (q : Int)) (by omega) (by omega)
      obtain ⟨v, ev⟩ : ∃ v : Int, v = if q = 0 then (c : Int) else nb c q := ⟨_, rfl⟩
      have hv : -1 ≤ v ∧ v < 40 := by rw [ev]; split <;> omega
      have c7 : pI (c : Nat) * (7 : Int32) + pI (q : Nat) = pI ((c : Int) * 7 + q) := by rw [show (7 : Int32) = pI 7 from rfl, pi_mul, pi_add]
      have hput : g_X9_put (t + 2) 280 (pI ((c : Int) * 7 + q)) (pI v) Q = some ((), am_s Q (t + 2) (7 * c + q) (pI v)) := by
        rw [s_put _ _ _ _ (by omega) (by omega) (by omega), show ((c : Int) * 7 + q).toNat = 7 * c + q by omega]
      refine ⟨(pI (q + 1 : Nat), am_s Q (t + 2) (7 * c + q) (pI v)), ?_, rfl, fr_trans hf (fr_s (by simp)), fun k hk2 => by rw [iv_b (by omega), hk k hk2], fun a ha => ?_⟩
      · dsimp only
        rw [g_X1_empty_L31, if_neg (show ¬ ((7 : Int32) ≤ pI (q : Nat)) by show ¬ (pI 7 ≤ _); rw [pi_le (by omega) (by omega) (by omega) (by omega)]; omega), c7, show pI (q : Nat) + (1 : Int32) = pI (q + 1 : Nat) from by rw [show (1 : Int32) = pI 1 from rfl, pi_add]; rfl]
        by_cases q0 : q = 0
        · rw [if_pos (show pI (q : Nat) = (0 : Int32) by rw [q0]; rfl)]
          rw [if_pos q0] at ev
          rw [ev] at hput
          rw [hput, am_b_some, ev]
        · rw [if_neg (show ¬ (pI (q : Nat) = (0 : Int32)) from fun z => by have := (pi_eq (a := q) (b := 0) (by omega) (by omega) (by omega) (by omega)).mp z; omega), s_neighbor Q (by omega) (by omega) (by omega) (by omega), am_b_some]
          rw [if_neg q0] at ev
          rw [ev] at hput
          rw [hput, am_b_some, ev]
      · dsimp only
        by_cases h : a = q
        · rw [h, iv_a (by omega) (by omega), ev]
        · rw [iv_b (by omega)]
          exact hp a (by omega)) (by
      rintro m ⟨b, Q⟩ ⟨e, hf, hk, hp⟩
      dsimp only at e hf hk hp
      subst e
      refine ⟨((), Q), ?_, hf, hk, hp⟩
      dsimp only
      rw [g_X1_empty_L31]
      rfl)
    exact ⟨Q, g3, f3, k3, p3⟩
  obtain ⟨⟨u, N⟩, g3, f3, p3⟩ := lo_for (fun m (s : Int32 × am_M) => g_X1_empty_L23 t m s.1 s.2) (fun q s => s.1 = pI (q : Nat) ∧ fr [t + 2] (am_s N2 t 3 (pI 0)) s.2 ∧ ∀ c a : Nat, c < q → a < 7 → iv s.2 (t + 2) (7 * c + a) = if a = 0 then (c : Int) else nb c a) (fun s => fr [t + 2] (am_s N2 t 3 (pI 0)) s.2 ∧ ∀ c a : Nat, c < 40 → a < 7 → iv s.2 (t + 2) (7 * c + a) = if a = 0 then (c : Int) else nb c a) 0 40 (pI 0, am_s N2 t 3 (pI 0)) ⟨rfl, fr_refl _ _, fun c a hc => by omega⟩ (by omega) (by unfold am_fu; omega) (by
    rintro m q ⟨b, P⟩ hq ⟨e, hf, hp⟩
    dsimp only at e hf hp
    subst e
    left
    obtain ⟨Q, g4, f4, k4, p4⟩ := inner q P hq
    refine ⟨(pI (q + 1 : Nat), Q), ?_, rfl, fr_trans hf f4, fun c a hc ha => ?_⟩
    · dsimp only
      rw [g_X1_empty_L23, if_neg (show ¬ ((40 : Int32) ≤ pI (q : Nat)) by show ¬ (pI 40 ≤ _); rw [pi_le (by omega) (by omega) (by omega) (by omega)]; omega), show pI (q : Nat) + (1 : Int32) = pI (q + 1 : Nat) from by rw [show (1 : Int32) = pI 1 from rfl, pi_add]; rfl]
      exact (congrArg (fun z => am_b z _) g4).trans rfl
    · by_cases h : c = q
      · rw [h]; exact p4 a ha
      · rw [k4 _ (by omega)]; exact hp c a (by omega) ha) (by
    rintro m ⟨b, P⟩ ⟨e, hf, hp⟩
    dsimp only at e hf hp
    subst e
    refine ⟨((), P), ?_, hf, hp⟩
    dsimp only
    rw [g_X1_empty_L23]
    rfl)
  dsimp only at g3 f3 p3
  have f12 : fr [t, t + 1, t + 2, t + 3] M N2 := fr_trans (fr_mono f1 (by simp)) (fr_mono f2 (by simp))
  refine ⟨N, ?_, fr_trans f12 (fr_trans (N := am_s N2 t 3 (pI 0)) (fr_s (by simp)) (fr_mono f3 (by simp))), ?_, fun k hk => ?_, fun c hc => ?_, p3⟩
  · unfold g_X1_empty
    have g1' : g_X9_fill (t + 1) 40 (0 : Int32) M = some ((), N1) := g1
    have g2' : g_X9_fill (t + 3) 4 (-1 : Int32) N1 = some ((), N2) := g2
    rw [g1', am_b_some, g2', am_b_some]
    exact (congrArg (fun z => am_b z _) g3).trans rfl
  · rw [fr_i f3 (by simp), iv_a (by omega) (by omega)]
  · rw [fr_i f3 (by simp), iv_b hk, fr_i f2 (by simp), fr_i f1 (by simp)]
  · rw [fr_i f3 (by simp), iv_c (by omega), fr_i f2 (by simp), p1, if_pos hc]
/-- the row of an empty world -/
theorem OK_zero {τ : Nat → Int} (h : ∀ k : Nat, k < 406 → τ k = 0) : OK τ := by
  have e0 := h 0 (by omega)
  have e1 := h 1 (by omega)
  have e6 := h 6 (by omega)
  have e7 := h 7 (by omega)
  refine ⟨by rw [e0]; omega, ⟨by rw [e1]; omega, fun k hk => by rw [e1] at hk; omega⟩, by rw [e6]; omega, by rw [e7]; omega, fun c hc => by rw [h _ (by omega)]; omega, fun r hr => by rw [e6] at hr; omega, fun j hj => by rw [e7] at hj; omega, fun r o hr => by rw [e6] at hr; omega⟩
theorem WD_zero {τ : Nat → Int} {w : Nat} {M : am_M} (h : ∀ k : Nat, k < 406 → τ k = 0) (h3 : iv M (w + 1) 3 = 0) (hk : ∀ c, c < 40 → iv M (w + 2) c = 0) (hl : ∀ c a : Nat, c < 40 → a < 7 → iv M (w + 3) (7 * c + a) = if a = 0 then (c : Int) else nb c a) (hv : ∀ c, c < 40 → iv M (w + 6) c = 0) (h2 : iv M w 2 = 0) (h3' : iv M w 3 = 0) (h4 : iv M w 4 = 0) : WD τ w M := by
  have e0 := h 0 (by omega)
  have e1 := h 1 (by omega)
  have e6 := h 6 (by omega)
  have e7 := h 7 (by omega)
  refine ⟨⟨by rw [e1]; exact h3, fun k hk => by rw [e1] at hk; omega, fun c hc => by rw [h _ (by omega)]; exact hk c hc, fun c a hc ha => ?_⟩, by rw [e0, e6, e7]; exact ⟨h2, h3', h4⟩, fun c hc => by rw [h _ (by omega)]; exact hv c hc, fun i hi => by rw [e6] at hi; omega, fun j hj => by rw [e7] at hj; omega⟩
  rw [hl c a hc ha]
  unfold mvs
  by_cases a0 : a = 0
  · rw [if_pos a0, if_pos (by omega)]
  · rw [if_neg a0, if_neg (by omega)]
    by_cases a5 : (a : Int) < 5
    · rw [if_pos a5]
    · rw [if_neg a5]
      unfold rd nb
      rw [if_neg (show ¬ ((a : Int) - 5 < τ 1) by rw [e1]; omega), if_neg (show ¬ (a : Int) = 1 by omega), if_neg (show ¬ (a : Int) = 2 by omega), if_neg (show ¬ (a : Int) = 3 by omega), if_neg (show ¬ (a : Int) = 4 by omega)]
theorem s_clears (P : am_M) : ∃ Q, g_X10_clears P = some ((), Q) ∧ fr [175] P Q ∧ ∀ k, k < 406 → iv Q 175 k = 0 := by
  obtain ⟨⟨u, Q⟩, g1, f1, p1⟩ := lo_for (fun m (s : Int32 × am_M) => g_X10_clears_L2 m s.1 s.2) (fun q s => s.1 = pI (q : Nat) ∧ fr [175] P s.2 ∧ ∀ k, k < q → iv s.2 175 k = 0) (fun s => fr [175] P s.2 ∧ ∀ k, k < 406 → iv s.2 175 k = 0) 0 406 (pI 0, P) ⟨rfl, fr_refl _ _, fun k hk => by omega⟩ (by omega) (by unfold am_fu; omega) (by
    rintro m q ⟨b, Q⟩ hq ⟨e, hf, hp⟩
    dsimp only at e hf hp
    subst e
    left
    refine ⟨(pI (q + 1 : Nat), am_s Q 175 q (pI 0)), ?_, rfl, fr_trans hf (fr_s (by simp)), fun k hk => ?_⟩
    · dsimp only
      rw [g_X10_clears_L2, if_neg (show ¬ ((406 : Int32) ≤ pI (q : Nat)) by show ¬ (pI 406 ≤ _); rw [pi_le (by omega) (by omega) (by omega) (by omega)]; omega), pi_ci (by omega) (by omega) (by omega), pi_cn (by omega) (by omega), Int.toNat_natCast, show pI (q : Nat) + (1 : Int32) = pI (q + 1 : Nat) from by rw [show (1 : Int32) = pI 1 from rfl, pi_add]; rfl]
      rfl
    · dsimp only
      by_cases h : k = q
      · rw [h, iv_a (by omega) (by omega)]
      · rw [iv_b h]; exact hp k (by omega)) (by
    rintro m ⟨b, Q⟩ ⟨e, hf, hp⟩
    dsimp only at e hf hp
    subst e
    refine ⟨((), Q), ?_, hf, hp⟩
    dsimp only
    rw [g_X10_clears_L2]
    rfl)
  dsimp only at g1 f1 p1
  refine ⟨Q, ?_, f1, p1⟩
  unfold g_X10_clears
  exact (congrArg (fun z => am_b z _) g1).trans rfl
/-- a case without arguments whose answers are compared at once -/
def CS0 (rc : Option (Int32 × am_M)) (rm : am_M → Option (Int32 × am_M)) : Prop := ∃ (v : Int32) (P Q : am_M), rc = some (v, P) ∧ rm P = some (v, Q) ∧ INV Q
theorem cs_clear {M : am_M} (hI : INV M) : CS0 (g_X9_clear M) g_X10_clear := by
  obtain ⟨N1, g1, f1, a1, a2, a3, a4⟩ := s_empty (t := 2) M (by omega)
  obtain ⟨N2, g2, f2, p2⟩ := s_fill 7 40 (v := 0) N1 (by omega) (by omega) (by omega)
  obtain ⟨N, eN⟩ : ∃ N, N = am_s (am_s (am_s N2 1 2 (pI 0)) 1 3 (pI 0)) 1 4 (pI 0) := ⟨_, rfl⟩
  have f12 : fr [1, 2, 3, 4, 5, 7] M N := by
    rw [eN]
    exact fr_trans (fr_mono f1 (by simp)) (fr_trans (fr_mono f2 (by simp)) (fr_trans (fr_s (by simp)) (fr_trans (fr_s (by simp)) (fr_s (by simp)))))
  have hsN : sg N = sg M := sg_fr f12 (by decide)
  have h0 : sg (am_s N 174 0 (pI 0)) = sg M := sg_t.trans hsN
  obtain ⟨Q, g3, f3, p3⟩ := s_clears (am_s N 174 0 (pI 0))
  have fNQ : fr [174, 175] N Q := fr_trans (N := am_s N 174 0 (pI 0)) (fr_s (by simp)) (fr_mono f3 (by simp))
  have hz : ∀ k, k < 406 → sg Q k = 0 := p3
  have hk : ∀ k, k ≠ 0 → iv Q 174 k = iv M 174 k := fun k hk => by rw [fr_i f3 (by decide), iv_b hk, fr_i f12 (by decide)]
  refine ⟨pI (sg M 6), N, Q, ?_, ?_, INV_set hI (OK_zero hz) (WD_zero hz ?_ (fun c hc => ?_) (fun c a hc ha => ?_) (fun c hc => ?_) ?_ ?_ ?_) (fr_trans (fr_mono f12 (by decide)) (fr_mono fNQ (by decide))) (hk 4 (by omega)) (hk 7 (by omega)) (hk 8 (by omega)) (hk 11 (by omega))⟩
  · unfold g_X9_clear g_X8_empty
    have g2' : g_X9_fill (1 + 6) 40 (0 : Int32) N1 = some ((), N2) := g2
    rw [show (1 + 1 : Nat) = 2 from rfl, g1, am_b_some, g2', am_b_some, am_b_some, pi_g, hI.2.1.2.1.1, eN]
    rfl
  · unfold g_X10_clear
    rw [aci _ _ _ (by decide), show am_s N 174 0 (0 : Int32) = am_s N 174 0 (pI 0) from rfl, g3, am_b_some]
    show some (am_g (am_s N 174 0 (pI 0)) 175 6, Q) = _
    rw [pi_g, show iv (am_s N 174 0 (pI 0)) 175 6 = sg M 6 from congrFun h0 6]
  · rw [fr_i fNQ (by decide), eN, iv_c (by decide), iv_c (by decide), iv_c (by decide), fr_i f2 (by decide)]; exact a1
  · rw [fr_i fNQ (by decide), eN, iv_c (by decide), iv_c (by decide), iv_c (by decide), fr_i f2 (by decide)]; exact a3 c hc
  · rw [fr_i fNQ (by decide), eN, iv_c (by decide), iv_c (by decide), iv_c (by decide), fr_i f2 (by decide)]; exact a4 c a hc ha
  · rw [fr_i fNQ (by decide), eN, iv_c (by decide), iv_c (by decide), iv_c (by decide), show (1 + 6 : Nat) = 7 from rfl, p2, if_pos hc]
  · rw [fr_i fNQ (by decide), eN, iv_b (by decide), iv_b (by decide), iv_a (by omega) (by omega)]
  · rw [fr_i fNQ (by decide), eN, iv_b (by decide), iv_a (by omega) (by omega)]
  · rw [fr_i fNQ (by decide), eN, iv_a (by omega) (by omega)]
end RR
