/-! the class adopts a plan -/
section QL
theorem OK_fol {σ : Nat → Int} (hO : OK σ) {r n : Nat} {α : Nat → Int} (hr : (r : Int) < σ 6) (h3 : ro σ r 3 = 0) (hn : n ≤ 30) (hL : LG σ r (-1) (ro σ r 0) α n) : OK (folF σ r α n) := by
  have hO' := hO
  obtain ⟨hC, hwl, h6, h7, hkd, hRF, hTF, hNC⟩ := hO
  have hr5 : r < 5 := by omega
  have hlow : ∀ k : Nat, k < 88 → folF σ r α n k = σ k := fun k hk => folF_low hk
  have h4r := (hRF r hr).2.2.2.1
  obtain ⟨g1, g2⟩ := geo_new hO' hlow hr (fun o ho hne k hk _ => folF_other hn hr5 ho hne hk) (folF_NR hr5 h3) hL h3
  have e6 := hlow 6 (by omega)
  have e7 := hlow 7 (by omega)
  have e0 := hlow 0 (by omega)
  refine ⟨by rw [e0]; exact hC, wl_congr (fun k hk => hlow k (by omega)) hwl, by rw [e6]; exact h6, by rw [e7]; exact h7, fun c hc => by rw [hlow _ (by omega)]; exact hkd c hc, fun o ho => ?_, fun j hj => ?_, fun a b ha hb hne t ht => g2 a b (by omega) (by omega) hne t ht⟩
  · rw [e6] at ho
    have hRo := hRF o ho
    refine ⟨(g1 o ho).1, (g1 o ho).2, ?_, ?_, ?_⟩
    · rw [e0]
      have e10 : ro (folF σ r α n) o 10 = ro σ o 10 := by
        by_cases h : o = r
        · subst h; exact folF_own hr5 (k := 10) (by omega) (by omega) (by omega)
        · exact folF_other hn hr5 (by omega) h (k := 10) (by omega)
      have e77 : ro (folF σ r α n) o 7 = ro σ o 7 := by
        by_cases h : o = r
        · subst h; exact folF_own hr5 (k := 7) (by omega) (by omega) (by omega)
        · exact folF_other hn hr5 (by omega) h (k := 7) (by omega)
      rw [e10, e77]
      exact hRo.2.2.1
    · rw [e7]
      by_cases h : o = r
      · subst h; rw [folF_four hr5]; omega
      · have := folF_other (α := α) (σ := σ) hn hr5 (show o < 5 by omega) h (k := 4) (by omega)
        rw [show ((4 : Nat) : Int) = 4 from rfl] at this
        rw [this]
        exact hRo.2.2.2.1
    · intro h40
      by_cases h : o = r
      · subst h; rw [folF_four hr5] at h40; omega
      · have e4 := folF_other (α := α) (σ := σ) hn hr5 (show o < 5 by omega) h (k := 4) (by omega)
        rw [show ((4 : Nat) : Int) = 4 from rfl] at e4
        have e2 := folF_other (α := α) (σ := σ) hn hr5 (show o < 5 by omega) h (k := 2) (by omega)
        rw [show ((2 : Nat) : Int) = 2 from rfl] at e2
        rw [e4] at h40 ⊢
        rw [e2]
        obtain ⟨q1, q2, q3⟩ := hRo.2.2.2.2 h40
        obtain ⟨t, et⟩ : ∃ t : Nat, ro σ o 4 = t := ⟨(ro σ o 4).toNat, by omega⟩
        rw [et] at q2 q3 ⊢
        have hne : ro σ r 4 ≠ t := fun e => by
          have := (hRF r hr).2.2.2.2 (by omega)
          rw [e] at this
          have := this.2.2
          omega
        have i4 := folF_it (α := α) (σ := σ) hn hr5 h4r.1 (j := t) (k := 4) (by omega)
        have i6 := folF_it (α := α) (σ := σ) hn hr5 h4r.1 (j := t) (k := 6) (by omega)
        rw [if_neg (fun q => hne q.1), if_neg (fun q => hne q.1)] at i4 i6
        rw [show ((4 : Nat) : Int) = 4 from rfl] at i4
        rw [show ((6 : Nat) : Int) = 6 from rfl] at i6
        exact ⟨q1, by rw [i4]; exact q2, by rw [i6]; exact q3⟩
  · rw [e7] at hj
    have hT := hTF j hj
    have hi : ∀ k : Nat, k < 9 → it (folF σ r α n) j k = if ro σ r 4 = j ∧ k = 4 then 0 else if ro σ r 4 = j ∧ k = 6 then -1 else it σ j k := fun k hk => folF_it hn hr5 h4r.1 hk
    have i0 := hi 0 (by omega)
    have i1 := hi 1 (by omega)
    have i2 := hi 2 (by omega)
    have i3 := hi 3 (by omega)
    have i4 := hi 4 (by omega)
    have i6 := hi 6 (by omega)
    rw [if_neg (by omega), if_neg (by omega)] at i0 i1 i2 i3
    have c0 : ((0 : Nat) : Int) = 0 := rfl
    have c1 : ((1 : Nat) : Int) = 1 := rfl
    have c2 : ((2 : Nat) : Int) = 2 := rfl
    have c3 : ((3 : Nat) : Int) = 3 := rfl
    have c4 : ((4 : Nat) : Int) = 4 := rfl
    have c6 : ((6 : Nat) : Int) = 6 := rfl
    rw [c0] at i0
    rw [c1] at i1
    rw [c2] at i2
    rw [c3] at i3
    rw [c4] at i4
    rw [c6] at i6
    unfold TF
    rw [i0, i1, i2, i3, i4, i6]
    obtain ⟨t1, t2, t3, t4, t5, t6, t7⟩ := hT
    by_cases h : ro σ r 4 = j
    · rw [if_pos ⟨h, rfl⟩, if_neg (by omega), if_pos ⟨h, rfl⟩]
      exact ⟨t1, t2, t3, t4, t5, by omega, fun _ => rfl⟩
    · rw [if_neg (fun q => h q.1), if_neg (fun q => h q.1), if_neg (fun q => h q.1), if_neg (fun q => h q.1)]
      exact ⟨t1, t2, t3, t4, t5, t6, t7⟩
theorem PR_SR {σ τ : Nat → Int} {o : Nat} {p : Nat} {C : Int} {M : am_M} (h6 : ∀ k : Nat, k < 6 → τ k = σ k) (hwl : wl σ) (h : SR σ τ o) (hL : ro σ o 2 ≤ 30) (hP : PR σ o p C M) : PR τ o p C M := by
  obtain ⟨b, n, q1, q2, q3, q4, q5, q6, q7, q8⟩ := hP
  have e2 : ro τ o 2 = ro σ o 2 := ro_SR h 2 (by omega) (by omega) (j := 2) rfl
  have e3 : ro τ o 3 = ro σ o 3 := ro_SR h 3 (by omega) (by omega) (j := 3) rfl
  have hal : ∀ k, k < 31 → al τ o k = al σ o k := fun k hk => ac_SR h hk
  have hlt : ∀ k, k ≤ n → lt (al τ o) k = lt (al σ o) k := fun k hk => lt_congr (fun i hi => hal i (by omega))
  refine ⟨b, n, by rw [e2]; exact q1, by rw [hlt n (Nat.le_refl _)]; exact q2, q3, q4, by rw [e3]; exact q5, fun k j hk hj => ?_, ?_, q8⟩
  · have ea := hal k (by omega)
    unfold al at ea
    rw [ea] at hj ⊢
    rw [hlt k (by omega), ck_SR h6 hwl h (by omega)]
    exact q6 k j hk hj
  · rw [hlt n (Nat.le_refl _), ck_SR h6 hwl h (by omega)]
    exact q7
theorem PR_new {σ τ : Nat → Int} {r n : Nat} {p : Nat} {C : Int} {α : Nat → Int} {M : am_M} (h6 : ∀ k : Nat, k < 6 → τ k = σ k) (hwl : wl σ) (hNR : NR σ τ r α n) (hT : lt α n ≤ 30) (hC : 0 ≤ C) (h2 : iv M p 2 = C) (hRW : RW σ p (ro σ r 0) α n M) : PR τ r p C M := by
  obtain ⟨w1, w2, w3, w4⟩ := hRW
  have hlt : ∀ k, k ≤ n → lt (al τ r) k = lt α k := fun k hk => lt_congr (fun i hi => hNR.2.2.2 i (by omega))
  refine ⟨0, n, hNR.2.1, by rw [hlt n (Nat.le_refl _), w1]; omega, by rw [w1]; omega, by rw [h2]; exact hC, ?_, fun k j hk hj => ?_, ?_, fun i hi => by omega⟩
  · rw [h2, hNR.2.2.1]
    split <;> omega
  · rw [hNR.2.2.2 k hk] at hj ⊢
    rw [hlt k (by omega), Nat.zero_add, ck_NR h6 hwl hNR (by omega)]
    exact w3 k j hk hj
  · rw [hlt n (Nat.le_refl _), Nat.zero_add, ck_NR h6 hwl hNR (Nat.le_refl _)]
    exact w4
theorem s_taskOf {w j : Nat} (M : am_M) (hj : j < 12) : g_X8_taskOf w (pI j) M = some (w + 40 + j, M) := by
  unfold g_X8_taskOf
  simp (disch := (first | omega | exact (iv_rng _ _ _).1 | exact (iv_rng _ _ _).2)) only [pi_lit, pi_nat, pi_add, pi_sub, pi_mul, pi_neg, pi_le, pi_lt, pi_eq, pi_cn, pi_ci, pi_g, am_b_some, iv_s, iv_ls, lg_s, lg_ls, if_true, if_false, Int.reduceEq, Int.reduceLT, Int.reduceLE, Int.reduceToNat]
  rw [if_neg (by omega), if_neg (by omega), Int.toNat_natCast, show w + 8 + 32 + j = w + 40 + j by omega]
theorem s_reopenTaskOf {p : Nat} {s : Int} {M : am_M} (hs : iv M p 3 = s) (h : -1 ≤ s ∧ s < 12) (hp : p < 41) : ∃ N, g_X8_reopenTaskOf 1 p M = some ((), N) ∧ fr [p, 41 + s.toNat] M N ∧ (∀ k, k ≠ 3 → iv N p k = iv M p k) ∧ iv N p 3 = -1 ∧ ∀ k, iv N (41 + s.toNat) k = if 0 ≤ s ∧ (k = 5 ∨ k = 6) then 0 else if 0 ≤ s ∧ k = 7 then -1 else iv M (41 + s.toNat) k := by
  by_cases h0 : s < 0
  · refine ⟨M, ?_, fr_refl _ _, fun k _ => rfl, by omega, fun k => by rw [if_neg (by omega), if_neg (by omega)]⟩
    unfold g_X8_reopenTaskOf
    simp (disch := (first | omega | exact (iv_rng _ _ _).1 | exact (iv_rng _ _ _).2)) only [pi_lit, pi_nat, pi_add, pi_sub, pi_mul, pi_neg, pi_le, pi_lt, pi_eq, pi_cn, pi_ci, pi_g, am_b_some, iv_s, iv_ls, lg_s, lg_ls, if_true, if_false, Int.reduceEq, Int.reduceLT, Int.reduceLE, Int.reduceToNat, hs]
    rw [if_pos h0]
  · obtain ⟨t, et⟩ : ∃ t : Nat, s = t := ⟨s.toNat, by omega⟩
    subst et
    rw [Int.toNat_natCast]
    refine ⟨am_s (am_s (am_s (am_s M (41 + t) 5 (pI 0)) (41 + t) 6 (pI 0)) (41 + t) 7 (pI (-1))) p 3 (pI (-1)), ?_, fr_trans (fr_s (by simp)) (fr_trans (fr_s (by simp)) (fr_trans (fr_s (by simp)) (fr_s (by simp)))), fun k hk => ?_, ?_, fun k => ?_⟩
    · unfold g_X8_reopenTaskOf g_X7_become
      have g1 := s_taskOf (w := 1) (j := t) M (by omega)
      simp (disch := (first | omega | exact (iv_rng _ _ _).1 | exact (iv_rng _ _ _).2)) only [pi_lit, pi_nat, pi_add, pi_sub, pi_mul, pi_neg, pi_le, pi_lt, pi_eq, pi_cn, pi_ci, pi_g, am_b_some, iv_s, iv_ls, lg_s, lg_ls, if_true, if_false, Int.reduceEq, Int.reduceLT, Int.reduceLE, Int.reduceToNat, hs, g1]
      rw [if_neg h0]
    · simp (disch := (first | omega | exact (iv_rng _ _ _).1 | exact (iv_rng _ _ _).2)) only [pi_lit, pi_nat, pi_add, pi_sub, pi_mul, pi_neg, pi_le, pi_lt, pi_eq, pi_cn, pi_ci, pi_g, am_b_some, iv_s, iv_ls, lg_s, lg_ls]
      rw [if_neg (by omega), if_neg (by omega), if_neg (by omega), if_neg (by omega)]
    · simp (disch := (first | omega | exact (iv_rng _ _ _).1 | exact (iv_rng _ _ _).2)) only [pi_lit, pi_nat, pi_add, pi_sub, pi_mul, pi_neg, pi_le, pi_lt, pi_eq, pi_cn, pi_ci, pi_g, am_b_some, iv_s, iv_ls, lg_s, lg_ls]
      rw [if_pos (by simp)]
    · simp (disch := (first | omega | exact (iv_rng _ _ _).1 | exact (iv_rng _ _ _).2)) only [pi_lit, pi_nat, pi_add, pi_sub, pi_mul, pi_neg, pi_le, pi_lt, pi_eq, pi_cn, pi_ci, pi_g, am_b_some, iv_s, iv_ls, lg_s, lg_ls]
      rw [if_neg (by omega)]
      by_cases k7 : k = 7
      · rw [if_pos (by simpa using k7), if_neg (by omega), if_pos (by omega)]
      · rw [if_neg (by omega)]
        by_cases k6 : k = 6
        · rw [if_pos (by simpa using k6), if_pos (by omega)]
        · rw [if_neg (by omega)]
          by_cases k5 : k = 5
          · rw [if_pos (by simpa using k5), if_pos (by omega)]
          · rw [if_neg (by omega), if_neg (by omega), if_neg (by omega)]
theorem s_pcopy {p q : Nat} {M : am_M} (hpq : p + 3 ≤ q ∨ q + 3 ≤ p) : ∃ N, g_X2_copyFrom p q M = some ((), N) ∧ fr [p, p + 1, p + 2] M N ∧ iv N p 2 = iv M q 2 ∧ iv N p 3 = iv M q 3 ∧ iv N p 4 = iv M q 4 ∧ (∀ k, k < 30 → iv N (p + 1) k = iv M (q + 1) k) ∧ ∀ k, k < 31 → iv N (p + 2) k = iv M (q + 2) k := by
  obtain ⟨N1, g1, f1, p1⟩ := s_copyRow (q + 1) (p + 1) 30 M (by omega) (by omega)
  obtain ⟨N2, g2, f2, p2⟩ := s_copyRow (q + 2) (p + 2) 31 N1 (by omega) (by omega)
  have f12 : fr [p + 1, p + 2] M N2 := fr_trans (fr_mono f1 (by simp)) (fr_mono f2 (by simp))
  have hq : ∀ k, iv N2 q k = iv M q k := fun k => fr_i f12 (by simp; omega) k
  have r2 := iv_rng M q 2
  have r3 := iv_rng M q 3
  have r4 := iv_rng M q 4
  refine ⟨am_s (am_s (am_s N2 p 2 (pI (iv M q 2))) p 3 (pI (iv M q 3))) p 4 (pI (iv M q 4)), ?_, fr_trans (fr_mono f12 (by simp)) (fr_trans (fr_s (by simp)) (fr_trans (fr_s (by simp)) (fr_s (by simp)))), ?_, ?_, ?_, fun k hk => ?_, fun k hk => ?_⟩
  · unfold g_X2_copyFrom
    rw [g1, am_b_some, g2, am_b_some]
    have c2 : am_g N2 q 2 = pI (iv M q 2) := by rw [pi_g, hq]
    have c3 : am_g (am_s N2 p 2 (pI (iv M q 2))) q 3 = pI (iv M q 3) := by rw [pi_g, iv_s r2.1 r2.2, if_neg (by omega), hq]
    have c4 : am_g (am_s (am_s N2 p 2 (pI (iv M q 2))) p 3 (pI (iv M q 3))) q 4 = pI (iv M q 4) := by rw [pi_g, iv_s r3.1 r3.2, if_neg (by omega), iv_s r2.1 r2.2, if_neg (by omega), hq]
    rw [c2, c3, c4]
  · rw [iv_s r4.1 r4.2, if_neg (by omega), iv_s r3.1 r3.2, if_neg (by omega), iv_s r2.1 r2.2, if_pos ⟨rfl, rfl⟩]
  · rw [iv_s r4.1 r4.2, if_neg (by omega), iv_s r3.1 r3.2, if_pos ⟨rfl, rfl⟩]
  · rw [iv_s r4.1 r4.2, if_pos ⟨rfl, rfl⟩]
  · rw [iv_s r4.1 r4.2, if_neg (by omega), iv_s r3.1 r3.2, if_neg (by omega), iv_s r2.1 r2.2, if_neg (by omega), fr_i f2 (by simp), p1, if_pos hk]
  · rw [iv_s r4.1 r4.2, if_neg (by omega), iv_s r3.1 r3.2, if_neg (by omega), iv_s r2.1 r2.2, if_neg (by omega), p2, if_pos hk, fr_i f1 (by simp; omega)]
end QL
