/-! a task ends on both sides -/
section FIX
theorem NOFIN {τ : Nat → Int} {q : Nat} (hO : OKW τ q) (h : ro τ q 4 < 0 ∨ 0 < ro τ q 2) : OKW τ (q + 1) := by
  have hO' := hO
  obtain ⟨hC, hwl, h6, h7, hkd, hRF, hTF, hNC⟩ := hO'
  refine OKW_ev hO (fun _ _ => rfl) (fun r hr => ⟨⟨rfl, rfl, rfl, fun _ _ => rfl⟩, rfl, rfl, Or.inl rfl⟩) hTF (fun r hr h4 => ?_)
  have r5 := (hRF r hr).2.2.2.2 h4
  refine ⟨fun hq => ?_, r5.2⟩
  by_cases e : r = q
  · subst e
    omega
  · exact r5.1 (by omega)
theorem FIN {A B : am_M} {q t : Nat} (hq : (q : Int) < sg B 6) (hW : WD (sg B) 1 A) (hO : OKW (sg B) q) (h4 : ro (sg B) q 4 = t) : WD (sg (EN B q t)) 1 (FI A q t) ∧ OKW (sg (EN B q t)) (q + 1) := by
  have hO' := hO
  obtain ⟨hC, hwl, h6, h7, hkd, hRF, hTF, hNC⟩ := hO'
  have hRq := hRF q hq
  have ht : t < 12 := by
    have := hRq.2.2.2.1
    omega
  have ht7 : (t : Int) < sg B 7 := by
    have := hRq.2.2.2.1
    omega
  have hq5 : q < 5 := by omega
  have hby := (hRq.2.2.2.2 (by omega)).2
  rw [h4] at hby
  obtain ⟨τ, eτ⟩ : ∃ τ, τ = sg (EN B q t) := ⟨_, rfl⟩
  obtain ⟨N, eN⟩ : ∃ N, N = FI A q t := ⟨_, rfl⟩
  rw [← eτ, ← eN]
  have hs : ∀ k : Nat, k ≠ 298 + 9 * t + 4 → k ≠ 298 + 9 * t + 7 → k ≠ 88 + 42 * q + 4 → k ≠ 88 + 42 * q + 8 → τ k = sg B k := fun k k1 k2 k3 k4 => by
    rw [eτ]
    unfold EN
    exact m_sg (by rw [gx_ne k4, gx_ne k3, gx_ne k2, gx_ne k1])
  have v4 : it τ t 4 = 2 := by
    rw [show it τ t 4 = τ (298 + 9 * t + 4) from it_nat τ t 4, eτ]
    unfold EN
    have : am_g (am_s (am_s (am_s (am_s B 175 (298 + 9 * t + 4) (pI 2)) 175 (298 + 9 * t + 7) (am_g B 175 0)) 175 (88 + 42 * q + 4) (pI (-1))) 175 (88 + 42 * q + 8) (am_g B 175 (88 + 42 * q + 8) + pI 1)) 175 (298 + 9 * t + 4) = pI 2 := by
      rw [gx_ne (by omega), gx_ne (by omega), gx_ne (by omega), gx_eq]
    exact (congrArg Int32.toInt this).trans (by decide)
  have v7 : it τ t 7 = sg B 0 := by
    rw [show it τ t 7 = τ (298 + 9 * t + 7) from it_nat τ t 7, eτ]
    unfold EN
    exact congrArg Int32.toInt (show am_g _ 175 (298 + 9 * t + 7) = am_g B 175 0 by rw [gx_ne (by omega), gx_ne (by omega), gx_eq])
  have w4 : ro τ q 4 = -1 := by
    rw [show ro τ q 4 = τ (88 + 42 * q + 4) from ro_nat τ q 4, eτ]
    unfold EN
    exact (congrArg Int32.toInt (show am_g _ 175 (88 + 42 * q + 4) = pI (-1) by rw [gx_ne (by omega), gx_eq])).trans (by decide)
  have w8 : pI (ro τ q 8) = am_g B 175 (88 + 42 * q + 8) + pI 1 := by
    rw [eτ, show ro (sg (EN B q t)) q 8 = ro (sg (EN B q t)) q ((8 : Nat) : Int) from rfl, m_ro]
    unfold EN
    rw [gx_eq]
  have hit : ∀ j k : Nat, k < 9 → ¬ (j = t ∧ (k = 4 ∨ k = 7)) → it τ j k = it (sg B) j k := fun j k hk h => by
    rw [it_nat, it_nat]
    exact hs _ (by omega) (by omega) (by omega) (by omega)
  have hro : ∀ i k : Nat, i < 5 → k < 42 → ¬ (i = q ∧ (k = 4 ∨ k = 8)) → ro τ i k = ro (sg B) i k := fun i k hi hk h => by
    rw [ro_nat, ro_nat]
    exact hs _ (by omega) (by omega) (by omega) (by omega)
  have hS : ∀ r : Nat, r < 5 → S3 (sg B) τ r := fun r hr => ⟨hro r 0 hr (by omega) (by omega), hro r 2 hr (by omega) (by omega), hro r 3 hr (by omega) (by omega), fun k hk => by rw [ac_nat, ac_nat]; exact hs _ (by omega) (by omega) (by omega) (by omega)⟩
  have hm : ∀ c a, mvs τ c a = mvs (sg B) c a := fun d a => mvs_congr (fun k hk => hs k (by omega) (by omega) (by omega) (by omega)) hwl d a
  have hl : ∀ k : Nat, k < 88 → τ k = sg B k := fun k hk => hs k (by omega) (by omega) (by omega) (by omega)
  have e0 := hl 0 (by omega)
  have e1 := hl 1 (by omega)
  have e6 := hl 6 (by omega)
  have e7 := hl 7 (by omega)
  have fA : fr [41 + t, 16 + 5 * q, 16 + 5 * q + 4] A N := by
    rw [eN]
    unfold FI
    exact fr_trans (fr_s (by simp)) (fr_trans (fr_s (by simp)) (fr_trans (fr_s (by simp)) (fr_trans (fr_s (by simp)) (fr_trans (fr_s (by simp)) (fr_s (by simp))))))
  have hn : ∀ a : Nat, a ≠ 41 + t → a ≠ 16 + 5 * q → a ≠ 16 + 5 * q + 4 → a ∉ [41 + t, 16 + 5 * q, 16 + 5 * q + 4] := fun a a1 a2 a3 => by simp; omega
  have hg : ∀ b k : Nat, ¬ (b = 41 + t ∧ (k = 5 ∨ k = 6 ∨ k = 7 ∨ k = 8)) → ¬ (b = 16 + 5 * q ∧ k = 3) → ¬ (b = 16 + 5 * q + 4 ∧ k = 3) → iv N b k = iv A b k := fun b k h1 h2 h3 => by
    rw [eN]
    unfold FI
    exact iv_of (by rw [hx_ne h3, hx_ne h2, hx_ne (by omega), hx_ne (by omega), hx_ne (by omega), hx_ne (by omega)])
  obtain ⟨W1, W2, W3, W4, W5⟩ := hW
  have hl1 := hwl.1
  constructor
  · have F1 := FLw_fr W1 fA (fun a h1 h2 => hn a (by omega) (by omega) (by omega))
    refine ⟨⟨by rw [e1]; exact F1.1, fun k hk => ?_, fun d hd => by rw [hl _ (by omega)]; exact F1.2.2.1 d hd, fun d a hd ha => by rw [hm]; exact F1.2.2.2 d a hd ha⟩, ?_, fun d hd => ?_, fun i hi => ?_, fun j hj => ?_⟩
    · rw [e1] at hk
      rw [hl _ (by omega)]
      exact F1.2.1 k hk
    · rw [hg 1 2 (by omega) (by omega) (by omega), hg 1 3 (by omega) (by omega) (by omega), hg 1 4 (by omega) (by omega) (by omega), e0, e6, e7]
      exact W2
    · rw [hg _ _ (by omega) (by omega) (by omega), hl _ (by omega)]
      exact W3 d hd
    · rw [e6] at hi
      obtain ⟨b1, b2, b3, b4, b5⟩ := W4 i hi
      have hi5 : i < 5 := by omega
      have x1 : ro τ i 1 = ro (sg B) i 1 := hro i 1 hi5 (by omega) (by omega)
      have x10 : ro τ i 10 = ro (sg B) i 10 := hro i 10 hi5 (by omega) (by omega)
      refine ⟨?_, ?_, ?_, ?_, fun k hk => ?_⟩
      · rw [e0]
        exact PR_S3 hm (hS i hi5) (hRF i hi).1 (PR_fr b1 fA (hn _ (by omega) (by omega) (by omega)) (hn _ (by omega) (by omega) (by omega)) (hn _ (by omega) (by omega) (by omega)))
      · rw [x1, hg _ _ (by omega) (by omega) (by omega)]
        exact b2
      · by_cases e : i = q
        · rw [e, w4, eN]
          unfold FI
          refine (congrArg Int32.toInt (show am_g _ (1 + 15 + 5 * q) 3 = pI (-1) by
            rw [show 1 + 15 + 5 * q = 16 + 5 * q by omega, hx_ne (by omega), hx_eq])).trans (by decide)
        · have x4 : ro τ i 4 = ro (sg B) i 4 := hro i 4 hi5 (by omega) (by omega)
          rw [x4, hg _ _ (by omega) (by omega) (by omega)]
          exact b3
      · rw [e0, x10, hg _ _ (by omega) (by omega) (by omega)]
        exact b4
      · by_cases e : i = q ∧ k = 3
        · obtain ⟨rfl, rfl⟩ := e
          have a8 : am_g A (16 + 5 * i + 4) 3 = am_g B 175 (88 + 42 * i + 8) := by
            have := b5 3 (by omega)
            rw [show 1 + 19 + 5 * i = 16 + 5 * i + 4 by omega] at this
            rw [pi_g, this]
            exact m_ro (w := 8)
          have hr8 := sg_rng (EN B i t) (88 + 42 * (i : Int) + 8).toNat
          rw [← eτ] at hr8
          have hr8' : -2147483648 ≤ ro τ i 8 ∧ ro τ i 8 < 2147483648 := hr8
          have : am_g N (1 + 19 + 5 * i) 3 = pI (ro τ i 8) := by
            rw [w8, eN]
            unfold FI
            rw [show 1 + 19 + 5 * i = 16 + 5 * i + 4 by omega, hx_eq, a8]
          have h9 := congrArg Int32.toInt this
          rw [pi_to hr8'.1 hr8'.2] at h9
          exact h9
        · have x5 : ro τ i (5 + k) = ro (sg B) i (5 + k) := hro i (5 + k) hi5 (by omega) (by omega)
          rw [x5, hg _ _ (by omega) (by omega) (by omega)]
          exact b5 k hk
    · rw [e7] at hj
      by_cases e : j = t
      · subst e
        have hTj := hTF j hj
        obtain ⟨⟨t0, t1, t2, t3⟩, t4, t5, t6, t7, t8⟩ := W5 j hj
        have i0 : it τ j 0 = it (sg B) j 0 := hit j 0 (by omega) (by omega)
        have i1 : it τ j 1 = it (sg B) j 1 := hit j 1 (by omega) (by omega)
        have i2 : it τ j 2 = it (sg B) j 2 := hit j 2 (by omega) (by omega)
        have i3 : it τ j 3 = it (sg B) j 3 := hit j 3 (by omega) (by omega)
        have i6 : it τ j 6 = it (sg B) j 6 := hit j 6 (by omega) (by omega)
        have i8 : it τ j 8 = it (sg B) j 8 := hit j 8 (by omega) (by omega)
        have c4 : am_g A 1 4 = pI (sg B 0) := by rw [pi_g, W2.2.2]
        refine ⟨⟨?_, ?_, ?_, ?_⟩, ?_, ?_, ?_, ?_, ?_⟩
        · rw [i0, hg _ _ (by omega) (by omega) (by omega)]; exact t0
        · rw [i1, hg _ _ (by omega) (by omega) (by omega)]; exact t1
        · rw [i2, hg _ _ (by omega) (by omega) (by omega)]; exact t2
        · rw [i3, hg _ _ (by omega) (by omega) (by omega)]; exact t3
        · rw [i8, hg _ _ (by omega) (by omega) (by omega)]; exact t4
        · rw [v4, eN]
          unfold FI
          exact (congrArg Int32.toInt (show am_g _ (1 + 40 + j) 5 = pI 2 by
            rw [show 1 + 40 + j = 41 + j by omega, hx_ne (by omega), hx_ne (by omega), hx_ne (by omega), hx_ne (by omega), hx_ne (by omega), hx_eq])).trans (by decide)
        · rw [v4, if_neg (by omega), eN]
          unfold FI
          exact (congrArg Int32.toInt (show am_g _ (1 + 40 + j) 6 = pI 0 by
            rw [show 1 + 40 + j = 41 + j by omega, hx_ne (by omega), hx_ne (by omega), hx_ne (by omega), hx_ne (by omega), hx_eq])).trans (by decide)
        · rw [i6, hby.2, eN]
          unfold FI
          have := congrArg Int32.toInt (show am_g (am_s (am_s (am_s (am_s (am_s (am_s A (41 + j) 5 (pI 2)) (41 + j) 6 (pI 0)) (41 + j) 7 (pI q)) (41 + j) 8 (am_g A 1 4)) (16 + 5 * q) 3 (pI (-1))) (16 + 5 * q + 4) 3 (am_g A (16 + 5 * q + 4) 3 + pI 1)) (1 + 40 + j) 7 = pI q by
            rw [show 1 + 40 + j = 41 + j by omega, hx_ne (by omega), hx_ne (by omega), hx_ne (by omega), hx_eq])
          rw [pi_to (by omega) (by omega)] at this
          exact this
        · rw [v7, eN]
          unfold FI
          have := congrArg Int32.toInt (show am_g (am_s (am_s (am_s (am_s (am_s (am_s A (41 + j) 5 (pI 2)) (41 + j) 6 (pI 0)) (41 + j) 7 (pI q)) (41 + j) 8 (am_g A 1 4)) (16 + 5 * q) 3 (pI (-1))) (16 + 5 * q + 4) 3 (am_g A (16 + 5 * q + 4) 3 + pI 1)) (1 + 40 + j) 8 = pI (sg B 0) by
            rw [show 1 + 40 + j = 41 + j by omega, hx_ne (by omega), hx_ne (by omega), hx_eq, c4])
          rw [pi_to (by omega) (by omega)] at this
          exact this
      · exact TB_fr ((TB_iff (fun k => it (sg B) j k) (fun k hk => hit j k hk (by omega))).mpr ((TB_iff (fun k => it (sg B) j k) (fun k _ => rfl)).mp (W5 j hj))) fA (hn _ (by omega) (by omega) (by omega))
  · refine OKW_ev hO (fun k hk => hl k (by omega)) (fun r hr => ⟨hS r (by omega), hro r 7 (by omega) (by omega) (by omega), hro r 10 (by omega) (by omega) (by omega), ?_⟩) (fun j hj => ?_) (fun r hr h => ?_)
    · by_cases e : r = q
      · right
        rw [e]
        exact w4
      · left
        exact hro r 4 (by omega) (by omega) (by omega)
    · have hT := hTF j hj
      have i0 : it τ j 0 = it (sg B) j 0 := hit j 0 (by omega) (by omega)
      have i1 : it τ j 1 = it (sg B) j 1 := hit j 1 (by omega) (by omega)
      have i2 : it τ j 2 = it (sg B) j 2 := hit j 2 (by omega) (by omega)
      have i3 : it τ j 3 = it (sg B) j 3 := hit j 3 (by omega) (by omega)
      have i6 : it τ j 6 = it (sg B) j 6 := hit j 6 (by omega) (by omega)
      unfold TF at hT ⊢
      by_cases e : j = t
      · have v4' : it τ j 4 = 2 := by
          rw [e]
          exact v4
        rw [i0, i1, i2, i3, v4']
        exact ⟨hT.1, hT.2.1, hT.2.2.1, hT.2.2.2.1, hT.2.2.2.2.1, by omega, fun h => absurd h (by omega)⟩
      · have i4 : it τ j 4 = it (sg B) j 4 := hit j 4 (by omega) (by omega)
        rw [i0, i1, i2, i3, i4, i6]
        exact hT
    · have hrq : r ≠ q := fun e => by
        rw [e, w4] at h
        omega
      have x4 : ro τ r 4 = ro (sg B) r 4 := hro r 4 (by omega) (by omega) (by omega)
      rw [x4] at h ⊢
      have r5 := (hRF r hr).2.2.2.2 h
      obtain ⟨u, eu⟩ : ∃ u : Nat, ro (sg B) r 4 = u := ⟨(ro (sg B) r 4).toNat, by omega⟩
      rw [eu] at r5 ⊢
      have hut : u ≠ t := fun e => by
        rw [e] at r5
        have := r5.2.2
        rw [hby.2] at this
        omega
      have i4 : it τ u 4 = it (sg B) u 4 := hit u 4 (by omega) (by omega)
      have i6 : it τ u 6 = it (sg B) u 6 := hit u 6 (by omega) (by omega)
      rw [i4, i6]
      exact ⟨fun hq2 => r5.1 (by omega), r5.2⟩
end FIX
