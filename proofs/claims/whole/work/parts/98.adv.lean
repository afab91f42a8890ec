/-! a tick on both sides: the second loop, the tick -/
section ADV
theorem s_isIdleW {τ : Nat → Int} {r : Nat} {M : am_M} (b1 : PR τ r (17 + 5 * r) (τ 0) M) (hw : wr τ r) (hC : τ 0 ≤ 1000) (c4 : am_g M 1 4 = pI (τ 0)) (hr : r < 5) : g_X8_isIdle 1 (pI r) M = some (pI (if ro τ r 2 = 0 then 1 else 0), M) := by
  have hb : -2147483648 ≤ pk τ r (ro τ r 2).toNat - ro τ r 3 ∧ pk τ r (ro τ r 2).toNat - ro τ r 3 < 2147483648 := by
    have h3 := hw.2.2.2.2.2
    have h4 := pk_mono (σ := τ) (r := (r : Int)) (k := 0) (n := (ro τ r 2).toNat) (by omega)
    have h5 : pk τ r 0 = 0 := rfl
    have h7 := hw.2.2.2.2.1
    omega
  unfold g_X8_isIdle
  rw [s_robotOf M hr, am_b_some, show 1 + 15 + 5 * r + 1 = 17 + 5 * r by omega, c4, s_ticksLeft b1 hw hC, am_b_some]
  by_cases h : ro τ r 2 = 0
  · rw [if_pos h, if_pos (show pI (pk τ r (ro τ r 2).toNat - ro τ r 3) = (0 : Int32) by rw [(idle_iff hw).mpr h]; rfl)]
    rfl
  · rw [if_neg h, if_neg (show ¬ (pI (pk τ r (ro τ r 2).toNat - ro τ r 3) = (0 : Int32)) from fun q => h ((idle_iff hw).mp ((pi_eq (b := 0) hb.1 hb.2 (by omega) (by omega)).mp q)))]
    rfl
theorem sg_of {M N : am_M} (h : ∀ k : Nat, am_g N 175 k = am_g M 175 k) : sg N = sg M := funext fun k => m_sg (h k)
/-- the class's second part of a robot's turn -/
theorem s_J91 {A B : am_M} {q : Nat} {n : Int} (rc : Int32 → Int32 → am_M → Option (Int32 × am_M)) (hq : (q : Int) < sg B 6) (hW : WD (sg B) 1 A) (hO : OKW (sg B) q) : g_X8_passTick_J91 rc 1 (pI n) (pI q) (16 + 5 * q) A = if 0 ≤ ro (sg B) q 4 ∧ ro (sg B) q 2 = 0 then rc (pI (n + 1)) (pI (q + 1)) (FI A q (ro (sg B) q 4).toNat) else rc (pI n) (pI (q + 1)) A := by
  obtain ⟨hC, hwl, h6, h7, hkd, hRF, hTF, hNC⟩ := hO
  obtain ⟨r1, r2, r3, r4, r5⟩ := hRF q hq
  have hq5 : q < 5 := by omega
  obtain ⟨b1, b2, b3, b4, b5⟩ := hW.2.2.2.1 q hq
  rw [show 1 + 16 + 5 * q = 17 + 5 * q by omega] at b1
  rw [show 1 + 15 + 5 * q = 16 + 5 * q by omega] at b3
  have c4 : am_g A 1 4 = pI (sg B 0) := by rw [pi_g, hW.2.1.2.2]
  have hi := s_isIdleW b1 r1 hC.2 c4 hq5
  have one : (1 : Int32) = pI 1 := rfl
  unfold g_X8_passTick_J91
  by_cases c : ro (sg B) q 4 < 0
  · rw [if_pos (show am_g A (16 + 5 * q) 3 < (0 : Int32) by
      rw [pi_g, b3]
      show _ < pI 0
      rw [pi_lt (by omega) (by omega) (by omega) (by omega)]
      exact c), if_neg (by omega), one, pi_add]
  · rw [if_neg (show ¬ am_g A (16 + 5 * q) 3 < (0 : Int32) by
      rw [pi_g, b3]
      show ¬ _ < pI 0
      rw [pi_lt (by omega) (by omega) (by omega) (by omega)]
      exact c), hi, am_b_some]
    by_cases d : ro (sg B) q 2 = 0
    · obtain ⟨t, ht⟩ : ∃ t : Nat, ro (sg B) q 4 = t := ⟨(ro (sg B) q 4).toNat, by omega⟩
      rw [if_pos d, if_neg ci1, if_pos (by omega), ht, s_finish hq5 (by omega) (b3.trans ht), am_b_some, one, pi_add, pi_add]
      rfl
    · rw [if_neg d, if_pos ci0, if_neg (by omega), one, pi_add]
theorem EV_step {A B : am_M} {q : Nat} {n : Int} (hq : (q : Int) < sg B 6) (hW : WD (sg B) 1 A) (hO : OKW (sg B) q) (rc : Int32 → Int32 → am_M → Option (Int32 × am_M)) (rm : Int32 → Int32 → am_M → Option (Int32 × am_M)) : ∃ (d : Int) (A' B' : am_M), (0 ≤ d ∧ d ≤ 1) ∧ (am_b (g_X8_robotOf 1 (pI q) A) (fun v12 M11 => (am_b (g_X2_placeAt (v12 + 1) (am_g M11 1 4) M11) (fun v15 M14 => (if v15 < (0 : Int32) then (g_X8_passTick_J91 rc 1 (pI n) (pI q) v12 M14) else (am_b (g_X9_at (1 + 6) 40 v15 M14) (fun v25 M24 => (am_b (g_X9_put (1 + 6) 40 v15 (v25 + (1 : Int32)) M24) (fun _ M27 => (g_X8_passTick_J91 rc 1 (pI n) (pI q) v12 M27)))))))))) = rc (pI (n + d)) (pI (q + 1)) A' ∧ (am_b (g_X10_ends (pI q) B) (fun v13 M12 => (if v13 = (0 : Int32) then (g_X10_ticks_J63 rm (pI q) (pI n) (0 : Int32) M12) else (g_X10_ticks_J63 rm (pI q) (pI n) (1 : Int32) M12)))) = rm (pI (n + d)) (pI (q + 1)) B' ∧ fr KC A A' ∧ fr [175] B B' ∧ WD (sg B') 1 A' ∧ OKW (sg B') (q + 1) ∧ ∀ k : Nat, k < 48 → sg B' k = sg B k := by
  have hO' := hO
  obtain ⟨hC, hwl, h6, h7, hkd, hRF, hTF, hNC⟩ := hO'
  obtain ⟨r1, r2, r3, r4, r5⟩ := hRF q hq
  have hq5 : q < 5 := by omega
  obtain ⟨b1, b2, b3, b4, b5⟩ := hW.2.2.2.1 q hq
  rw [show 1 + 16 + 5 * q = 17 + 5 * q by omega] at b1
  have c4 : am_g A 1 4 = pI (sg B 0) := by rw [pi_g, hW.2.1.2.2]
  have hA : 0 ≤ ro (sg B) q 0 ∧ ro (sg B) q 0 < 40 := r1.2.2.1 0 (by have := r1.1; omega)
  obtain ⟨c, ec⟩ : ∃ c : Nat, ro (sg B) q 0 = c := ⟨(ro (sg B) q 0).toNat, by omega⟩
  have g2 : g_X2_placeAt (17 + 5 * q) (pI (sg B 0)) A = some (pI (fp (sg B) q 0), A) := by
    have := s_placeAt (t := 0) b1 r1 hC.2 (by omega)
    rw [show sg B 0 + ((0 : Nat) : Int) = sg B 0 by omega] at this
    exact this
  have hp := fp_rng r1 0
  have hfp := @fp_now (sg B) q
  have hfa : fa (sg B) q 0 = if 0 < ro (sg B) q 2 then ac (sg B) q 0 else 0 := rfl
  have hB5 : 0 < ro (sg B) q 3 → 5 ≤ fa (sg B) q 0 := fun h => by
    have := r1.2.2.2.2.1 h
    rw [hfa, if_pos this.1]
    exact this.2.1
  have l0 : (pI (fp (sg B) q 0) < (0 : Int32)) = (fp (sg B) q 0 < 0) := pi_lt (b := 0) (by omega) (by omega) (by omega) (by omega)
  have r0 : g_X8_robotOf 1 (pI q) A = some (16 + 5 * q, A) := by
    rw [s_robotOf A hq5, show 1 + 15 + 5 * q = 16 + 5 * q by omega]
  have hends := s_ends (B := B) hq5 (by omega) r1.1
  have one : (1 : Int32) = pI 1 := rfl
  -- the visit, on both sides
  obtain ⟨Av, Bv, hcl, hWv, hOv, fAv, fBv, hrow, hvis⟩ : ∃ Av Bv : am_M, (am_b (g_X8_robotOf 1 (pI q) A) (fun v12 M11 => (am_b (g_X2_placeAt (v12 + 1) (am_g M11 1 4) M11) (fun v15 M14 => (if v15 < (0 : Int32) then (g_X8_passTick_J91 rc 1 (pI n) (pI q) v12 M14) else (am_b (g_X9_at (1 + 6) 40 v15 M14) (fun v25 M24 => (am_b (g_X9_put (1 + 6) 40 v15 (v25 + (1 : Int32)) M24) (fun _ M27 => (g_X8_passTick_J91 rc 1 (pI n) (pI q) v12 M27)))))))))) = g_X8_passTick_J91 rc 1 (pI n) (pI q) (16 + 5 * q) Av ∧ WD (sg Bv) 1 Av ∧ OKW (sg Bv) q ∧ fr KC A Av ∧ fr [175] B Bv ∧ (∀ k : Nat, (k < 48 ∨ 88 ≤ k) → am_g Bv 175 k = am_g B 175 k) ∧ ((0 < ro (sg B) q 3 ∧ Bv = B) ∨ (¬ 0 < ro (sg B) q 3 ∧ Bv = am_s B 175 (48 + c) (am_g B 175 (48 + c) + 1))) := by
    rw [r0, am_b_some, show 16 + 5 * q + 1 = 17 + 5 * q by omega, c4, g2, am_b_some]
    simp only [l0]
    by_cases d : 0 < ro (sg B) q 3
    · have := hB5 d
      rw [if_pos d] at hfp
      rw [if_pos (by omega)]
      exact ⟨A, B, rfl, hW, hO, fr_refl _ _, fr_refl _ _, fun _ _ => rfl, Or.inl ⟨d, rfl⟩⟩
    · rw [if_neg d] at hfp
      rw [if_neg (by omega), hfp, ec, s_at1 _ _ _ (by omega) (by omega) (by omega), am_b_some, s_put _ _ _ _ (by omega) (by omega) (by omega), am_b_some, Int.toNat_natCast, ← pi_g]
      obtain ⟨v1, v2⟩ := VIS (A := A) (B := B) (p := q) (c := c) (by omega) hW hO
      exact ⟨_, _, rfl, v1, v2, fr_s (mem_KC.mpr (by omega)), fr_s (by decide), fun k hk => gx_ne (by omega), Or.inr ⟨d, rfl⟩⟩
  have hqv : (q : Int) < sg Bv 6 := by
    rw [m_sg (hrow 6 (by omega))]
    exact hq
  have x2 : ro (sg Bv) q 2 = ro (sg B) q 2 := m_ro3 (w := 2) (hrow _ (by omega))
  have x4 : ro (sg Bv) q 4 = ro (sg B) q 4 := m_ro3 (w := 4) (hrow _ (by omega))
  rw [hcl, s_J91 rc hqv hWv hOv, hends, x2, x4]
  -- the model's visit
  have hmv : ∀ (B1 : am_M) (w : Int), am_g B1 175 (88 + 42 * q + 3) = am_g B 175 (88 + 42 * q + 3) → am_g B1 175 (88 + 42 * q + 0) = am_g B 175 (88 + 42 * q + 0) → g_X10_ticks_J63 rm (pI q) (pI n) (pI w) B1 = rm (pI (n + w)) (pI (q + 1)) (if 0 < ro (sg B) q 3 then B1 else am_s B1 175 (48 + c) (am_g B1 175 (48 + c) + 1)) := by
    intro B1 w h3 h0
    have y3 : ro (sg B1) q 3 = ro (sg B) q 3 := m_ro3 (w := 3) h3
    have k0 : am_g B1 175 (88 + 42 * q + 0) = pI c := by
      rw [h0, ← ec]
      exact (m_ro (w := 0)).symm
    unfold g_X10_ticks_J63
    by_cases d : 0 < ro (sg B) q 3
    · rw [mlift_t rfl hq5 (by rw [y3]; exact d), am_b_some, if_neg ci1, if_pos d, pi_add, one, pi_add]
    · rw [mlift_f rfl hq5 (by rw [y3]; exact d), am_b_some, if_pos ci0, if_neg d, m_of 0 0 rfl hq5 (by omega), am_b_some, k0, show (48 : Int32) = pI 48 from rfl, pi_add, pi_ci (by omega) (by omega) (by omega), pi_ci (by omega) (by omega) (by omega), pi_cn (by omega) (by omega), show (48 + (c : Int)).toNat = 48 + c by omega, pi_add, one, pi_add]
  by_cases e : 0 ≤ ro (sg B) q 4 ∧ ro (sg B) q 2 = 0
  · rw [if_pos e, if_pos e, am_b_some, if_neg (show ¬ (pI 1 = (0 : Int32)) by decide)]
    obtain ⟨t, ht⟩ : ∃ t : Nat, ro (sg B) q 4 = t := ⟨(ro (sg B) q 4).toNat, by omega⟩
    rw [ht, Int.toNat_natCast]
    have ht12 : t < 12 := by omega
    obtain ⟨W2, O2⟩ := FIN (A := Av) (B := Bv) (q := q) (t := t) hqv hWv hOv (by rw [x4]; exact ht)
    have hm2 := hmv (EN B q t) 1 (by unfold EN; rw [gx_ne (by omega), gx_ne (by omega), gx_ne (by omega), gx_ne (by omega)]) (by unfold EN; rw [gx_ne (by omega), gx_ne (by omega), gx_ne (by omega), gx_ne (by omega)])
    have hsg : sg (if 0 < ro (sg B) q 3 then EN B q t else am_s (EN B q t) 175 (48 + c) (am_g (EN B q t) 175 (48 + c) + 1)) = sg (EN Bv q t) := by
      rcases hvis with ⟨v1, v2⟩ | ⟨v1, v2⟩
      · rw [if_pos v1, v2]
      · rw [if_neg v1, v2]
        refine sg_of fun k => ?_
        unfold EN
        rw [gx_ne (k := 48 + c) (j := 0) (by omega), gx_ne (k := 48 + c) (j := 88 + 42 * q + 8) (by omega)]
        by_cases k8 : k = 88 + 42 * q + 8
        · subst k8
          rw [gx_ne (by omega), gx_eq, gx_eq]
        · by_cases k4 : k = 88 + 42 * q + 4
          · subst k4
            rw [gx_ne (by omega), gx_ne (by omega), gx_eq, gx_ne (by omega), gx_eq]
          · by_cases k7 : k = 298 + 9 * t + 7
            · subst k7
              rw [gx_ne (by omega), gx_ne (by omega), gx_ne (by omega), gx_eq, gx_ne (by omega), gx_ne (by omega), gx_eq]
            · by_cases k5 : k = 298 + 9 * t + 4
              · subst k5
                rw [gx_ne (by omega), gx_ne (by omega), gx_ne (by omega), gx_ne (by omega), gx_eq, gx_ne (by omega), gx_ne (by omega), gx_ne (by omega), gx_eq]
              · by_cases kc : k = 48 + c
                · subst kc
                  rw [gx_eq, gx_ne (by omega), gx_ne (by omega), gx_ne (by omega), gx_ne (by omega), gx_ne (by omega), gx_ne (by omega), gx_ne (by omega), gx_ne (by omega), gx_eq]
                · rw [gx_ne kc, gx_ne k8, gx_ne k4, gx_ne k7, gx_ne k5, gx_ne k8, gx_ne k4, gx_ne k7, gx_ne k5, gx_ne kc]
    refine ⟨1, _, _, by omega, rfl, hm2, fr_trans fAv ?_, ?_, by rw [hsg]; exact W2, by rw [hsg]; exact O2, fun k hk => ?_⟩
    · unfold FI
      have m1 : 41 + t ∈ KC := mem_KC.mpr (by omega)
      have m2 : 16 + 5 * q ∈ KC := mem_KC.mpr (by omega)
      have m3 : 16 + 5 * q + 4 ∈ KC := mem_KC.mpr (by omega)
      exact fr_trans (fr_s m1) (fr_trans (fr_s m1) (fr_trans (fr_s m1) (fr_trans (fr_s m1) (fr_trans (fr_s m2) (fr_s m3)))))
    · have f5 : fr [175] B (EN B q t) := by
        unfold EN
        exact fr_trans (fr_s (by decide)) (fr_trans (fr_s (by decide)) (fr_trans (fr_s (by decide)) (fr_s (by decide))))
      by_cases d : 0 < ro (sg B) q 3
      · rw [if_pos d]
        exact f5
      · rw [if_neg d]
        exact fr_trans f5 (fr_s (by decide))
    · rw [hsg]
      refine m_sg ?_
      unfold EN
      rw [gx_ne (by omega), gx_ne (by omega), gx_ne (by omega), gx_ne (by omega)]
      exact hrow k (by omega)
  · rw [if_neg e, if_neg e, am_b_some, if_pos (show pI 0 = (0 : Int32) from rfl)]
    have hm2 := hmv B 0 rfl rfl
    have hB' : (if 0 < ro (sg B) q 3 then B else am_s B 175 (48 + c) (am_g B 175 (48 + c) + 1)) = Bv := by
      rcases hvis with ⟨v1, v2⟩ | ⟨v1, v2⟩
      · rw [if_pos v1, v2]
      · rw [if_neg v1, v2]
    rw [hB'] at hm2
    refine ⟨0, Av, Bv, by omega, by rw [show n + 0 = n by omega], hm2, fAv, fBv, hWv, NOFIN hOv ?_, fun k hk => m_sg (hrow k (by omega))⟩
    rw [x2, x4]
    have := r1.1
    omega
end ADV
