/-! the tick and the case advance -/
section AD2
theorem EV_loop : ∀ (d q f m : Nat) (n : Int) (A B : am_M), (q : Int) + d = sg B 6 → WD (sg B) 1 A → OKW (sg B) q → d < f → d < m → ∃ (e : Int) (A' B' : am_M), g_X8_passTick_L39 1 f (pI n) (pI q) A = some (pI (n + e), A') ∧ g_X10_ticks_L38 m (pI n) (pI q) B = some (pI (n + e), B') ∧ fr KC A A' ∧ fr [175] B B' ∧ WD (sg B') 1 A' ∧ OK (sg B') ∧ ∀ k : Nat, k < 48 → sg B' k = sg B k
  | 0, q, f, m, n, A, B, hq, hW, hO, h1, h2 => by
    have h6 := hO.2.2.1
    obtain ⟨f, rfl⟩ : ∃ g, f = g + 1 := ⟨f - 1, by omega⟩
    obtain ⟨m, rfl⟩ : ∃ g, m = g + 1 := ⟨m - 1, by omega⟩
    refine ⟨0, A, B, ?_, ?_, fr_refl _ _, fr_refl _ _, hW, OKW_OK hO (by omega), fun _ _ => rfl⟩
    · rw [g_X8_passTick_L39, if_pos (show am_g A 1 2 ≤ pI q by
        rw [pi_g, hW.2.1.1, pi_le (by omega) (by omega) (by omega) (by omega)]
        omega), show n + 0 = n by omega]
    · rw [g_X10_ticks_L38]
      show (if am_g B 175 6 ≤ pI q then _ else _) = _
      rw [if_pos (show am_g B 175 6 ≤ pI q by
        rw [pi_g, show iv B 175 6 = sg B 6 from rfl, pi_le (by omega) (by omega) (by omega) (by omega)]
        omega), show n + 0 = n by omega]
  | d + 1, q, f, m, n, A, B, hq, hW, hO, h1, h2 => by
    have h6 := hO.2.2.1
    obtain ⟨f, rfl⟩ : ∃ g, f = g + 1 := ⟨f - 1, by omega⟩
    obtain ⟨m, rfl⟩ : ∃ g, m = g + 1 := ⟨m - 1, by omega⟩
    obtain ⟨e, A1, B1, e1, g1, g2, f1, f2, W1, O1, k1⟩ := EV_step (n := n) (q := q) (by omega) hW hO (g_X8_passTick_L39 1 f) (g_X10_ticks_L38 m)
    have e6 := k1 6 (by omega)
    obtain ⟨e', A2, B2, g3, g4, f3, f4, W2, O2, k2⟩ := EV_loop d (q + 1) f m (n + e) A1 B1 (by omega) W1 O1 (by omega) (by omega)
    refine ⟨e + e', A2, B2, ?_, ?_, fr_trans f1 f3, fr_trans f2 f4, W2, O2, fun k hk => (k2 k hk).trans (k1 k hk)⟩
    · rw [g_X8_passTick_L39, if_neg (show ¬ am_g A 1 2 ≤ pI q by
        rw [pi_g, hW.2.1.1, pi_le (by omega) (by omega) (by omega) (by omega)]
        omega), show n + (e + e') = n + e + e' by omega]
      exact g1.trans g3
    · rw [g_X10_ticks_L38]
      show (if am_g B 175 6 ≤ pI q then _ else _) = _
      rw [if_neg (show ¬ am_g B 175 6 ≤ pI q by
        rw [pi_g, show iv B 175 6 = sg B 6 from rfl, pi_le (by omega) (by omega) (by omega) (by omega)]
        omega), show n + (e + e') = n + e + e' by omega]
      exact g2.trans g4
theorem TICK {A B : am_M} (hW : WD (sg B) 1 A) (hO : OK (sg B)) (h1000 : sg B 0 < 1000) : ∃ (e : Int) (A' B' : am_M), g_X8_passTick 1 A = some (pI e, A') ∧ g_X10_ticks B = some (pI e, B') ∧ fr KC A A' ∧ fr [175] B B' ∧ WD (sg B') 1 A' ∧ OK (sg B') ∧ sg B' 0 = sg B 0 + 1 := by
  have h6 := hO.2.2.1
  have h0 := hO.1
  obtain ⟨A1, B1, g1, g2, f1, f2, P1⟩ := PH_loop hO (sg B 6).toNat 0 am_fu am_fu A B (by omega) (PH_zero hW) (by unfold am_fu; omega) (by unfold am_fu; omega)
  obtain ⟨W2, O2⟩ := PH_clock hO h1000 P1
  have b0 : am_g B1 175 0 = pI (sg B 0) := by
    rw [pi_g]
    exact congrArg pI (P1.1 0 (by omega))
  have e0 : sg (am_s B1 175 0 (am_g B1 175 0 + (1 : Int32))) 0 = sg B 0 + 1 := by
    rw [b0, show (1 : Int32) = pI 1 from rfl, pi_add]
    show iv (am_s B1 175 0 (pI (sg B 0 + 1))) 175 0 = _
    rw [iv_s (by omega) (by omega), if_pos ⟨rfl, rfl⟩]
  have e6 : sg (am_s B1 175 0 (am_g B1 175 0 + (1 : Int32))) 6 = sg B 6 := (m_sg (gx_ne (by omega))).trans (P1.1 6 (by omega))
  obtain ⟨e, A3, B3, g3, g4, f3, f4, W3, O3, k3⟩ := EV_loop (sg B 6).toNat 0 am_fu am_fu 0 _ _ (by rw [e6]; omega) W2 O2 (by unfold am_fu; omega) (by unfold am_fu; omega)
  refine ⟨e, A3, B3, ?_, ?_, fr_trans f1 (fr_trans (fr_s (mem_KC.mpr (by omega))) f3), fr_trans f2 (fr_trans (fr_s (by decide)) f4), W3, O3, (k3 0 (by omega)).trans e0⟩
  · unfold g_X8_passTick
    rw [show (0 : Int32) = pI ((0 : Nat) : Int) from rfl, g1, am_b_some]
    have g3' : g_X8_passTick_L39 1 am_fu (pI ((0 : Nat) : Int)) (pI ((0 : Nat) : Int)) (am_s A1 1 4 (am_g A1 1 4 + (1 : Int32))) = some (pI (0 + e), A3) := g3
    rw [g3', am_b_some, show 0 + e = e by omega]
  · unfold g_X10_ticks
    have g2' : g_X10_ticks_L4 (0 : Int32) am_fu (0 : Int32) B = some ((), B1) := g2
    rw [g2', am_b_some]
    have g4' : g_X10_ticks_L38 am_fu (0 : Int32) (0 : Int32) (am_s B1 175 0 (am_g B1 175 0 + (1 : Int32))) = some (pI (0 + e), B3) := g4
    rw [show ∀ x : Option (Int32 × am_M), am_ci (0 : Int32) 406 x = x from fun _ => rfl, show ∀ x : Option (Int32 × am_M), am_ci (0 : Int32) 406 x = x from fun _ => rfl]
    show am_b (g_X10_ticks_L38 am_fu (0 : Int32) (0 : Int32) (am_s B1 175 0 (am_g B1 175 0 + (1 : Int32)))) _ = _
    rw [g4', am_b_some, show 0 + e = e by omega]
theorem ADVL {N : Nat} (hN : N ≤ 30) : ∀ (d k f m : Nat) (n : Int) (A B : am_M), k + d = N → WD (sg B) 1 A → OK (sg B) → sg B 0 + d ≤ 1000 → d < f → d < m → ∃ (e : Int) (A' B' : am_M), g_X9_advance_L35 (pI N) f (pI n) (pI k) A = some (pI e, A') ∧ g_X10_advance_L45 (pI N) m (pI n) (pI k) B = some (pI e, B') ∧ fr KC A A' ∧ fr [175] B B' ∧ WD (sg B') 1 A' ∧ OK (sg B')
  | 0, k, f, m, n, A, B, hk, hW, hO, h1000, h1, h2 => by
    obtain ⟨f, rfl⟩ : ∃ g, f = g + 1 := ⟨f - 1, by omega⟩
    obtain ⟨m, rfl⟩ : ∃ g, m = g + 1 := ⟨m - 1, by omega⟩
    have hc : pI (N : Nat) ≤ pI (k : Nat) := by
      rw [pi_le (by omega) (by omega) (by omega) (by omega)]
      omega
    refine ⟨n, A, B, ?_, ?_, fr_refl _ _, fr_refl _ _, hW, hO⟩
    · rw [g_X9_advance_L35, if_pos hc]
    · rw [g_X10_advance_L45, if_pos hc]
  | d + 1, k, f, m, n, A, B, hk, hW, hO, h1000, h1, h2 => by
    obtain ⟨f, rfl⟩ : ∃ g, f = g + 1 := ⟨f - 1, by omega⟩
    obtain ⟨m, rfl⟩ : ∃ g, m = g + 1 := ⟨m - 1, by omega⟩
    have hc : ¬ pI (N : Nat) ≤ pI (k : Nat) := by
      rw [pi_le (by omega) (by omega) (by omega) (by omega)]
      omega
    obtain ⟨e, A1, B1, g1, g2, f1, f2, W1, O1, k0⟩ := TICK hW hO (by omega)
    obtain ⟨e', A2, B2, g3, g4, f3, f4, W2, O2⟩ := ADVL hN d (k + 1) f m (n + e) A1 B1 (by omega) W1 O1 (by omega) (by omega) (by omega)
    refine ⟨e', A2, B2, ?_, ?_, fr_trans f1 f3, fr_trans f2 f4, W2, O2⟩
    · rw [g_X9_advance_L35, if_neg hc, g1, am_b_some, show (1 : Int32) = pI 1 from rfl, pi_add, pi_add]
      exact g3
    · rw [g_X10_advance_L45, if_neg hc, g2, am_b_some, show (1 : Int32) = pI 1 from rfl, pi_add, pi_add]
      exact g4
theorem cs_advance {M : am_M} (hI : INV M) (a : Int32) : CS (g_L_advance a M) (g_X10_advance a) := by
  obtain ⟨x, rfl, hx1, hx2⟩ := pi_cast a
  have hO := hI.1
  have h0 := hO.1
  have gt : g_X9_demandTicks (pI x) (1 : Int32) M = some (if 1 ≤ x ∧ x ≤ 30 then .inl () else .inr 2, M) := s_demandTicks (l := 1) (M := M) hx1 hx2 (by omega)
  by_cases c : 1 ≤ x ∧ x ≤ 30
  · obtain ⟨N, rfl⟩ : ∃ N : Nat, x = N := ⟨x.toNat, by omega⟩
    rw [if_pos c] at gt
    have mi : ∀ P, g_X10_in (pI N) (1 : Int32) (30 : Int32) P = some (pI 1, P) := fun P => min_t (b := 1) (c := 30) (by omega) (by omega) (by omega) (by omega)
    have c4 : am_g M 1 4 = pI (sg M 0) := by rw [pi_g, hI.2.1.2.1.2.2]
    have hle : (pI (sg M 0 + N) ≤ (1000 : Int32)) = (sg M 0 + N ≤ 1000) := pi_le (b := 1000) (by omega) (by omega) (by omega) (by omega)
    by_cases d : sg M 0 + N ≤ 1000
    · obtain ⟨e, A, B, g1, g2, f1, f2, W1, O1⟩ := ADVL (N := N) (by omega) N 0 am_fu am_fu 0 M M (by omega) hI.2.1 hO d (by unfold am_fu; omega) (by unfold am_fu; omega)
      have h175 : 175 ∉ KC := fun q => by have := mem_KC.mp q; omega
      have sA : sg A = sg M := sg_fr f1 h175
      obtain ⟨P0, eP0⟩ : ∃ P0, P0 = am_s (am_ls A 186 0 (pI e).toInt64) 174 0 (pI 0) := ⟨_, rfl⟩
      have sP : sg P0 = sg M := by
        rw [eP0]
        exact sg_t.trans sA
      obtain ⟨e', A', Q, g3, g4, f3, f4, W3, O3⟩ := ADVL (N := N) (by omega) N 0 am_fu am_fu 0 M P0 (by omega) (by rw [sP]; exact hI.2.1) (by rw [sP]; exact hO) (by rw [sP]; exact d) (by unfold am_fu; omega) (by unfold am_fu; omega)
      rw [g1] at g3
      have g3' := Option.some.inj g3
      have ee : pI e = pI e' := congrArg Prod.fst g3'
      have eA : A = A' := congrArg Prod.snd g3'
      rw [← eA] at W3
      have fQ : fr [174, 175, 186] A Q := by
        refine fr_trans (N := P0) ?_ (fr_mono f4 (fun a ha => by simp at ha ⊢; omega))
        rw [eP0]
        exact fr_trans (fr_ls (by decide)) (fr_s (by decide))
      have k174 : ∀ k : Nat, k ≠ 0 → iv Q 174 k = iv M 174 k := fun k hk => by
        rw [fr_i f4 (by decide), eP0, iv_of (hx_ne (M := am_ls A 186 0 (pI e).toInt64) (a := 174) (k := 0) (b := 174) (j := k) (v := pI 0) (by omega))]
        exact fr_i f1 (fun q => by have := mem_KC.mp q; omega) k
      have hQ : INV Q := by
        refine INV_set hI O3 (WD_fr W3 (by have := O3.2.2.1; omega) (by have := O3.2.2.2.1; omega) fQ (fun a h1 h2 => by simp; omega)) ?_ (k174 4 (by omega)) (k174 7 (by omega)) (k174 8 (by omega)) (k174 11 (by omega))
        exact fr_trans (fr_mono f1 (fun a ha => mem_KX.mpr (by have := mem_KC.mp ha; omega))) (fr_mono fQ (fun a ha => mem_KX.mpr (by simp at ha; omega)))
      refine CS_yes (O := A) (v := pI e) (Q := Q) ?_ ?_ ?_ ?_ hQ
      · unfold g_L_advance g_X9_advance
        rw [gt, am_bx_inl, c4, pi_add]
        rw [if_pos (show pI (sg M 0 + N) ≤ (1000 : Int32) by rw [hle]; exact d)]
        have g1' : g_X9_advance_L35 (pI N) am_fu (0 : Int32) (0 : Int32) M = some (pI e, A) := g1
        rw [g1', am_b_some]
        rfl
      · unfold g_X10_advance
        rw [show am_s (am_ls A 186 0 (pI e).toInt64) 174 0 (0 : Int32) = P0 from eP0.symm, mi, am_b_some, if_neg ci1]
        rw [show ∀ x : Option (Int32 × am_M), am_ci (0 : Int32) 406 x = x from fun _ => rfl]
        have k0 : am_g P0 175 (0 : Int32).toNatClampNeg = pI (sg M 0) := by
          show am_g P0 175 0 = _
          rw [pi_g, ← sP]
          rfl
        rw [k0, pi_add, if_pos (show pI (sg M 0 + N) ≤ (1000 : Int32) by rw [hle]; exact d)]
        have g4' : g_X10_advance_L45 (pI N) am_fu (0 : Int32) (0 : Int32) P0 = some (pI e', Q) := g4
        rw [g4', am_b_some, ee]
      · rw [fr_i f4 (by decide), eP0]
        exact thr_s (by omega) (by omega)
      · rw [fr_l f4 (by decide), eP0]
        rfl
    · refine CS_no1 (k := 2) (v := 0) hI ?_ ?_ (by omega)
      · unfold g_L_advance g_X9_advance
        rw [gt, am_bx_inl, c4, pi_add]
        rw [if_neg (show ¬ pI (sg M 0 + N) ≤ (1000 : Int32) by rw [hle]; exact d)]
        rfl
      · unfold g_X10_advance
        rw [mi, am_b_some, if_neg ci1]
        rw [show ∀ x : Option (Int32 × am_M), am_ci (0 : Int32) 406 x = x from fun _ => rfl]
        have k0 : am_g (am_s M 174 0 (0 : Int32)) 175 (0 : Int32).toNatClampNeg = pI (sg M 0) := by
          show am_g (am_s M 174 0 (0 : Int32)) 175 0 = _
          rw [hx_ne (by omega), pi_g]
          rfl
        rw [k0, pi_add, if_neg (show ¬ pI (sg M 0 + N) ≤ (1000 : Int32) by rw [hle]; exact d)]
        rfl
  · rw [if_neg c] at gt
    refine CS_no1 (k := 1) (v := 0) hI ?_ ?_ (by omega)
    · unfold g_L_advance g_X9_advance
      rw [gt, am_bx_inr]
      rfl
    · unfold g_X10_advance
      have mi : ∀ P, g_X10_in (pI x) (1 : Int32) (30 : Int32) P = some (pI 0, P) := fun P => min_f (b := 1) (c := 30) (by omega) (by omega) hx1 hx2 (by omega) (by omega) c
      rw [mi, am_b_some, if_pos ci0]
      rfl
end AD2
