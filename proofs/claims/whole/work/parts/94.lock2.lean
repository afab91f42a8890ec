/-! a tick on both sides: the loop over the robots, the clock -/
section LOL
theorem PH_loop {σ : Nat → Int} (hO : OK σ) : ∀ (d q fuel m : Nat) (A B : am_M), (q : Int) + d = σ 6 → PH σ (sg B) A q → d < fuel → d < m → ∃ A' B', g_X8_passTick_L2 1 fuel (pI q) A = some ((), A') ∧ g_X10_ticks_L4 (0 : Int32) m (pI q) B = some ((), B') ∧ fr KC A A' ∧ fr [175] B B' ∧ PH σ (sg B') A' (σ 6).toNat
  | 0, q, fuel, m, A, B, hq, hP, h1, h2 => by
    have h6 := hO.2.2.1
    obtain ⟨f, rfl⟩ : ∃ f, fuel = f + 1 := ⟨fuel - 1, by omega⟩
    obtain ⟨n, rfl⟩ : ∃ n, m = n + 1 := ⟨m - 1, by omega⟩
    have e1 : iv A 1 2 = σ 6 := hP.2.2.2.1.2.1.1
    have e2 : iv B 175 6 = σ 6 := hP.1 6 (by omega)
    refine ⟨A, B, ?_, ?_, fr_refl _ _, fr_refl _ _, ?_⟩
    · rw [g_X8_passTick_L2, if_pos (show am_g A 1 2 ≤ pI q by
        rw [pi_g, e1, pi_le (by omega) (by omega) (by omega) (by omega)]
        omega)]
    · rw [g_X10_ticks_L4]
      show (if am_g B 175 6 ≤ pI q then _ else _) = _
      rw [if_pos (show am_g B 175 6 ≤ pI q by
        rw [pi_g, e2, pi_le (by omega) (by omega) (by omega) (by omega)]
        omega)]
    · rw [show (σ 6).toNat = q by omega]
      exact hP
  | d + 1, q, fuel, m, A, B, hq, hP, h1, h2 => by
    have h6 := hO.2.2.1
    obtain ⟨f, rfl⟩ : ∃ f, fuel = f + 1 := ⟨fuel - 1, by omega⟩
    obtain ⟨n, rfl⟩ : ∃ n, m = n + 1 := ⟨m - 1, by omega⟩
    have e1 : iv A 1 2 = σ 6 := hP.2.2.2.1.2.1.1
    have e2 : iv B 175 6 = σ 6 := hP.1 6 (by omega)
    obtain ⟨A1, B1, g1, g2, f1, f2, hP1⟩ := PH_step hO hP (by omega)
    obtain ⟨A2, B2, g3, g4, f3, f4, hP2⟩ := PH_loop hO d (q + 1) f n A1 B1 (by omega) hP1 (by omega) (by omega)
    have r0 : g_X8_robotOf 1 (pI q) A = some (1 + 15 + 5 * q, A) := s_robotOf A (by omega)
    rw [show 1 + 15 + 5 * q = 16 + 5 * q by omega] at r0
    refine ⟨A2, B2, ?_, ?_, fr_trans f1 f3, fr_trans f2 f4, hP2⟩
    · rw [g_X8_passTick_L2, if_neg (show ¬ am_g A 1 2 ≤ pI q by
        rw [pi_g, e1, pi_le (by omega) (by omega) (by omega) (by omega)]
        omega), r0, am_b_some, g1, am_b_some, show (1 : Int32) = pI 1 from rfl, pi_add]
      exact g3
    · rw [g_X10_ticks_L4]
      show (if am_g B 175 6 ≤ pI q then _ else _) = _
      rw [if_neg (show ¬ am_g B 175 6 ≤ pI q by
        rw [pi_g, e2, pi_le (by omega) (by omega) (by omega) (by omega)]
        omega), g2, am_b_some, show (1 : Int32) = pI 1 from rfl, pi_add]
      exact g4
theorem mvs_congr1 {σ τ : Nat → Int} (h : ∀ k : Nat, 1 ≤ k → k < 6 → τ k = σ k) (hwl : wl σ) (c a : Int) : mvs τ c a = mvs σ c a := by
  have h1 := h 1 (by omega) (by omega)
  have h2 := hwl.1
  unfold mvs
  split
  · rfl
  · split
    · rfl
    · unfold rd
      rw [h1]
      by_cases h3 : a - 5 < σ 1
      · rw [if_pos h3, if_pos h3]
        have h4 := h (2 + 2 * (a - 5)).toNat (by omega) (by omega)
        have h5 := h (3 + 2 * (a - 5)).toNat (by omega) (by omega)
        rw [h4, h5]
      · rw [if_neg h3, if_neg h3]
/-- a row is fit, but that robots from q on may have come to their end -/
def OKW (τ : Nat → Int) (q : Nat) : Prop := (0 ≤ τ 0 ∧ τ 0 ≤ 1000) ∧ wl τ ∧ (0 ≤ τ 6 ∧ τ 6 ≤ 5) ∧ (0 ≤ τ 7 ∧ τ 7 ≤ 12) ∧ (∀ c : Nat, c < 40 → 0 ≤ τ (8 + c) ∧ τ (8 + c) ≤ 2) ∧ (∀ r : Nat, (r : Int) < τ 6 → wr τ r ∧ (∀ t : Nat, 0 ≤ fp τ r t → τ (8 + fp τ r t).toNat ≠ 1) ∧ (0 ≤ ro τ r 10 ∧ ro τ r 10 ≤ τ 0 ∧ 0 ≤ ro τ r 7 ∧ ro τ r 7 ≤ ro τ r 10) ∧ (-1 ≤ ro τ r 4 ∧ ro τ r 4 < τ 7) ∧ (0 ≤ ro τ r 4 → (r < q → 0 < ro τ r 2) ∧ it τ (ro τ r 4) 4 = 1 ∧ it τ (ro τ r 4) 6 = r)) ∧ (∀ j : Nat, (j : Int) < τ 7 → TF τ j) ∧ ∀ r o : Nat, (r : Int) < τ 6 → (o : Int) < τ 6 → r ≠ o → ∀ t : Nat, 0 ≤ fp τ r t → fp τ o t ≠ fp τ r t
theorem OKW_OK {τ : Nat → Int} {q : Nat} (h : OKW τ q) (hq : τ 6 ≤ q) : OK τ := by
  obtain ⟨h0, hwl, h6, h7, hkd, hRF, hTF, hNC⟩ := h
  refine ⟨h0, hwl, h6, h7, hkd, fun r hr => ?_, hTF, hNC⟩
  obtain ⟨a1, a2, a3, a4, a5⟩ := hRF r hr
  exact ⟨a1, a2, a3, a4, fun h => ⟨(a5 h).1 (by omega), (a5 h).2⟩⟩
theorem PH_clock {σ : Nat → Int} {A B : am_M} (hO : OK σ) (h1000 : σ 0 < 1000) (hP : PH σ (sg B) A (σ 6).toNat) : WD (sg (am_s B 175 0 (am_g B 175 0 + (1 : Int32)))) 1 (am_s A 1 4 (am_g A 1 4 + (1 : Int32))) ∧ OKW (sg (am_s B 175 0 (am_g B 175 0 + (1 : Int32)))) 0 := by
  obtain ⟨hC, hwl, h6, h7, hkd, hRF, hTF, hNC⟩ := hO
  obtain ⟨p1, p2, p3, ⟨c1, c2, c3, c4, c5⟩, p5⟩ := hP
  obtain ⟨τ, eτ⟩ : ∃ τ, τ = sg (am_s B 175 0 (am_g B 175 0 + (1 : Int32))) := ⟨_, rfl⟩
  obtain ⟨A2, eA⟩ : ∃ A2, A2 = am_s A 1 4 (am_g A 1 4 + (1 : Int32)) := ⟨_, rfl⟩
  rw [← eτ, ← eA]
  have b0 : am_g B 175 0 = pI (σ 0) := by
    rw [pi_g]
    exact congrArg pI (p1 0 (by omega))
  have t0 : τ 0 = σ 0 + 1 := by
    rw [eτ, b0, show (1 : Int32) = pI 1 from rfl, pi_add]
    show iv (am_s B 175 0 (pI (σ 0 + 1))) 175 0 = _
    rw [iv_s (by omega) (by omega), if_pos ⟨rfl, rfl⟩]
  have tk0 : ∀ k : Nat, k ≠ 0 → τ k = sg B k := fun k hk => by
    rw [eτ]
    exact m_sg (gx_ne hk)
  have hl : ∀ k : Nat, k ≠ 0 → (k < 88 ∨ 298 ≤ k) → τ k = σ k := fun k hk h => (tk0 k hk).trans (p1 k h)
  have e1 : τ 1 = σ 1 := hl 1 (by omega) (by omega)
  have e6 : τ 6 = σ 6 := hl 6 (by omega) (by omega)
  have e7 : τ 7 = σ 7 := hl 7 (by omega) (by omega)
  have hl1 := hwl.1
  have hm : ∀ c a, mvs τ c a = mvs σ c a := fun c a => mvs_congr1 (fun k h1 h2 => hl k (by omega) (by omega)) hwl c a
  have hro : ∀ i k : Nat, ro τ i k = ro (sg B) i k := fun i k => by
    rw [ro_nat, ro_nat]
    exact tk0 _ (by omega)
  have hit : ∀ j k : Nat, it τ j k = it σ j k := fun j k => by
    rw [it_nat, it_nat]
    exact hl _ (by omega) (by omega)
  have hNW : ∀ i : Nat, (i : Int) < σ 6 → NW σ τ i := fun i hi => NW_congr (hRF i hi).1.1.2 (fun k _ => hro i k) (p3 i hi (by omega))
  have hTS : ∀ i : Nat, (i : Int) < σ 6 → TS σ τ i := fun i hi => ⟨hm, (hNW i hi).1⟩
  have fA : fr [1] A A2 := by
    rw [eA]
    exact fr_s (by decide)
  have hn1 : ∀ a : Nat, a ≠ 1 → a ∉ [1] := fun a ha => by simp; exact ha
  constructor
  · refine ⟨⟨?_, fun k hk => ?_, fun c hc => ?_, fun c a hc ha => ?_⟩, ⟨?_, ?_, ?_⟩, fun c hc => ?_, fun i hi => ⟨?_, ?_, ?_, ?_, fun k hk => ?_⟩, fun j hj => ?_⟩
    · rw [fr_i fA (hn1 _ (by omega)), e1]
      exact c1.1
    · rw [e1] at hk
      rw [fr_i fA (hn1 _ (by omega)), hl _ (by omega) (by omega)]
      exact c1.2.1 k hk
    · rw [fr_i fA (hn1 _ (by omega)), hl _ (by omega) (by omega)]
      exact c1.2.2.1 c hc
    · rw [fr_i fA (hn1 _ (by omega)), hm]
      exact c1.2.2.2 c a hc ha
    · rw [eA, e6, ← c2.1]
      exact iv_of (hx_ne (by omega))
    · rw [eA, e7, ← c2.2.1]
      exact iv_of (hx_ne (by omega))
    · rw [eA, t0, pi_g, c2.2.2, show (1 : Int32) = pI 1 from rfl, pi_add, iv_s (by omega) (by omega), if_pos ⟨rfl, rfl⟩]
    · rw [fr_i fA (hn1 _ (by omega)), hl _ (by omega) (by omega)]
      exact c3 c hc
    · rw [e6] at hi
      rw [t0, show 1 + 16 + 5 * i = 17 + 5 * i by omega]
      exact PR_fr (ts_PR (hTS i hi) (hRF i hi).1 (c4 i hi).1) fA (hn1 _ (by omega)) (hn1 _ (by omega)) (hn1 _ (by omega))
    · rw [e6] at hi
      rw [fr_i fA (hn1 _ (by omega)), show 1 + 15 + 5 * i = 16 + 5 * i by omega, (p5 i hi).1]
      exact (hro i 1).symm
    · rw [e6] at hi
      rw [fr_i fA (hn1 _ (by omega)), show 1 + 15 + 5 * i = 16 + 5 * i by omega, (c4 i hi).2.1]
      exact (hNW i hi).2.2.1.symm
    · rw [e6] at hi
      rw [fr_i fA (hn1 _ (by omega)), show 1 + 15 + 5 * i = 16 + 5 * i by omega, (c4 i hi).2.2, t0, (hNW i hi).2.1]
      omega
    · rw [e6] at hi
      rw [fr_i fA (hn1 _ (by omega)), show 1 + 19 + 5 * i = 16 + 5 * i + 4 by omega, (p5 i hi).2 k hk]
      exact (hro i (5 + k)).symm
    · rw [e7] at hj
      exact TB_fr ((TB_iff (fun k => it σ j k) (fun k hk => hit j k)).mpr ((TB_iff (fun k => it σ j k) (fun k _ => rfl)).mp (c5 j hj))) fA (hn1 _ (by omega))
  · refine ⟨by omega, ⟨by rw [e1]; exact hl1, fun k hk => ?_⟩, by rw [e6]; exact h6, by rw [e7]; exact h7, fun c hc => ?_, fun r hr => ?_, fun j hj => ?_, fun r o hr ho hne t ht => ?_⟩
    · rw [e1] at hk
      rw [hl _ (by omega) (by omega)]
      exact hwl.2 k hk
    · rw [hl _ (by omega) (by omega)]
      exact hkd c hc
    · rw [e6] at hr
      obtain ⟨r1, r2, r3, r4, r5⟩ := hRF r hr
      obtain ⟨n1, n2, n3, n4⟩ := hNW r hr
      refine ⟨ts_wr (hTS r hr) r1, fun t ht => ?_, by omega, by rw [n3, e7]; exact r4, fun h => ⟨fun q => absurd q (by omega), ?_⟩⟩
      · have e := ts_fp (hTS r hr) r1 t
        rw [e] at ht ⊢
        have hp := fp_rng r1 (t + 1)
        rw [hl _ (by omega) (by omega)]
        exact r2 (t + 1) ht
      · rw [n3] at h ⊢
        obtain ⟨j, hj⟩ : ∃ j : Nat, ro σ r 4 = j := ⟨(ro σ r 4).toNat, by omega⟩
        have := (r5 h).2
        rw [hj] at this ⊢
        have a4 := hit j 4
        have a6 := hit j 6
        exact ⟨a4.trans this.1, a6.trans this.2⟩
    · rw [e7] at hj
      have hT := hTF j hj
      have i0 : it τ j 0 = it σ j 0 := hit j 0
      have i1 : it τ j 1 = it σ j 1 := hit j 1
      have i2 : it τ j 2 = it σ j 2 := hit j 2
      have i3 : it τ j 3 = it σ j 3 := hit j 3
      have i4 : it τ j 4 = it σ j 4 := hit j 4
      have i6 : it τ j 6 = it σ j 6 := hit j 6
      unfold TF at hT ⊢
      rw [i0, i1, i2, i3, i4, i6]
      exact hT
    · rw [e6] at hr ho
      rw [ts_fp (hTS r hr) (hRF r hr).1 t] at ht ⊢
      rw [ts_fp (hTS o ho) (hRF o ho).1 t]
      exact hNC r o hr ho hne (t + 1) ht
end LOL
