/-! the costs backwards, by the model -/
section PQ
theorem s_costs64 {σ : Nat → Int} {r wo : Int} {f e t x : Nat} {M : am_M} (h : MS σ wo M) (hwl : wl σ) (hr : 0 ≤ r ∧ r < 5) (hx : x < 40) (he : e ≤ 30) (ht : t < e) (R : Nat → Int → Prop) (hR : tb R M) (C : Nat → Int → Int) (hC : tc C M) (hC0 : ∀ t x, 0 ≤ C t x ∧ C t x ≤ 1000000) (hCx : C t x = 1000000) : ∃ N, g_X10_costsBack_L64 (pI r) (pI f) (pI e) (pI t) (pI x) am_fu (pI 0) M = some ((), N) ∧ fr [183] M N ∧ tc (fun t' x' => if t' = t ∧ x' = x then cif (R t x) (mn (thr σ r wo e C t x) 7) 1000000 else C t' x') N := by
  by_cases hRx : R t x
  · have key := lo_for (fun m (s : Int32 × am_M) => g_X10_costsBack_L64 (pI r) (pI f) (pI e) (pI t) (pI x) m s.1 s.2) (fun k s => s.1 = pI (k : Nat) ∧ fr [183] M s.2 ∧ tc (fun t' x' => if t' = t ∧ x' = x then mn (thr σ r wo e C t x) k else C t' x') s.2) (fun y => fr [183] M y.2 ∧ tc (fun t' x' => if t' = t ∧ x' = x then mn (thr σ r wo e C t x) 7 else C t' x') y.2) 0 7 (pI 0, M) ⟨rfl, fr_refl _ _, tc_eq hC (fun t' x' _ _ => by
      by_cases h1 : t' = t ∧ (x' : Int) = x
      · rw [if_pos h1, h1.1, h1.2, hCx]; rfl
      · rw [if_neg h1])⟩ (by omega) (by unfold am_fu; omega) ?_ ?_
    · obtain ⟨⟨u9, N⟩, h3, h4, h5⟩ := key
      refine ⟨N, h3, h4, ?_⟩
      rw [cif_t hRx]
      exact h5
    · rintro m k ⟨a, N⟩ hk ⟨e1, hf, hq⟩
      dsimp only at e1 hf hq
      subst e1
      left
      have hm := MS_fr h hf (by decide) (by decide) (by decide) (by decide)
      have el := s_isLegal (a := (k : Int)) (c := (x : Int)) hm hwl hr (by omega) (by omega) (by omega : t < 30)
      have hv := mvs_rng hwl (c := (x : Int)) (a := (k : Int)) (by omega) (by omega)
      have hk3 := tk_pos (k : Int)
      have hc3 := cst_rng (k : Int)
      have hrr : iv N 182 (40 * t + x) = 1 := by
        rw [fr_i hf (by decide), hR t x (by omega) hx, b01_t hRx]
      have hq' : ∀ t' x' : Nat, t' ≤ 30 → x' < 40 → iv N 183 (40 * t' + x') = if t' = t ∧ (x' : Int) = x then mn (thr σ r wo e C t x) k else C t' x' := hq
      have hold : iv N 183 (40 * t + x) = mn (thr σ r wo e C t x) k := by
        rw [hq' t x (by omega) hx, if_pos ⟨rfl, rfl⟩]
      have hmn1 := mn_le (thr σ r wo e C t x) k
      have hmn0 := mn_ge (thr σ r wo e C t x) (fun a => thr_ge (fun t x => (hC0 t x).1) t x a) k
      by_cases h1 : leg σ r wo x k t ∧ t + tk k ≤ e
      · have h2 : mvs σ x k ≠ -1 := h1.1.1
        have hnew : iv N 183 (40 * (t + tk k) + mvs σ x k).toNat = C (t + tk k).toNat (mvs σ x k) := by
          have h5 := hq' (t + tk k).toNat (mvs σ x k).toNat (by omega) (by omega)
          rw [show 40 * (t + tk k).toNat + (mvs σ x k).toNat = (40 * (t + tk k) + mvs σ x k).toNat by omega] at h5
          rw [h5, if_neg (by omega), show (((mvs σ x k).toNat : Nat) : Int) = mvs σ x k by omega]
        have hth : thr σ r wo e C t x k = cst k + C (t + tk k).toNat (mvs σ x k) := by
          unfold thr; rw [cif_t h1]
        have hb := hC0 (t + tk k).toNat (mvs σ x k)
        refine ⟨(pI (k + 1 : Nat), am_s N 183 (40 * t + x) (pI (mn (thr σ r wo e C t x) (k + 1)))), ?_, rfl, fr_trans hf (fr_s (by simp)), fun t' x' ht' hx' => ?_⟩
        · dsimp only
          rw [g_X10_costsBack_L64]
          rw [b01_t h1.1] at el
          simp (disch := (first | omega | exact (iv_rng _ _ _).1 | exact (iv_rng _ _ _).2)) only [pi_lit, pi_nat, pi_add, pi_sub, pi_mul, pi_neg, pi_le, pi_lt, pi_eq, pi_cn, pi_ci, pi_g, am_b_some, iv_s, iv_ls, lg_s, lg_ls, if_true, if_false, Int.reduceEq, Int.reduceLT, Int.reduceLE, Int.reduceToNat, s_takes, el, s_costs, s_mmoved, hm.1]
          rw [if_neg (by omega), show (40 * (t : Int) + (x : Int)).toNat = 40 * t + x by omega, hrr, if_neg (by omega), if_neg (by omega), hnew, hold, mn, hth]
          by_cases h6 : cst k + C (t + tk k).toNat (mvs σ x k) < mn (thr σ r wo e C t x) k
          · rw [if_pos h6, if_pos h6]; rfl
          · rw [if_neg h6, if_neg h6]; rfl
        · dsimp only
          have hr1 := mn_le (thr σ r wo e C t x) (k + 1)
          have hr0 := mn_ge (thr σ r wo e C t x) (fun a => thr_ge (fun t x => (hC0 t x).1) t x a) (k + 1)
          rw [iv_s (by omega) (by omega)]
          by_cases h6 : t' = t ∧ x' = x
          · rw [if_pos (by omega), if_pos (by omega)]
          · rw [if_neg (by omega), hq' t' x' ht' hx', if_neg (by omega), if_neg (by omega)]
      · have hth : thr σ r wo e C t x k = 1000000 := by
          unfold thr; rw [cif_f h1]
        refine ⟨(pI (k + 1 : Nat), N), ?_, rfl, hf, tc_eq hq (fun t' x' _ _ => ?_)⟩
        · dsimp only
          rw [g_X10_costsBack_L64]
          by_cases h5 : e < t + tk k
          · simp (disch := (first | omega | exact (iv_rng _ _ _).1 | exact (iv_rng _ _ _).2)) only [pi_lit, pi_nat, pi_add, pi_sub, pi_mul, pi_neg, pi_le, pi_lt, pi_eq, pi_cn, pi_ci, pi_g, am_b_some, iv_s, iv_ls, lg_s, lg_ls, if_true, if_false, Int.reduceEq, Int.reduceLT, Int.reduceLE, Int.reduceToNat, s_takes]
            rw [if_neg (by omega), show (40 * (t : Int) + (x : Int)).toNat = 40 * t + x by omega, hrr, if_neg (by omega), if_pos h5]
            rfl
          · rw [b01_f (fun h6 => h1 ⟨h6, by omega⟩)] at el
            simp (disch := (first | omega | exact (iv_rng _ _ _).1 | exact (iv_rng _ _ _).2)) only [pi_lit, pi_nat, pi_add, pi_sub, pi_mul, pi_neg, pi_le, pi_lt, pi_eq, pi_cn, pi_ci, pi_g, am_b_some, iv_s, iv_ls, lg_s, lg_ls, if_true, if_false, Int.reduceEq, Int.reduceLT, Int.reduceLE, Int.reduceToNat, s_takes, el]
            rw [if_neg (by omega), show (40 * (t : Int) + (x : Int)).toNat = 40 * t + x by omega, hrr, if_neg (by omega), if_neg h5]
            rfl
        · have hm1 : mn (thr σ r wo e C t x) (k + 1) = mn (thr σ r wo e C t x) k := by rw [mn, hth, if_neg (by omega)]
          rw [hm1]
    · rintro m ⟨a, N⟩ ⟨e1, hf, hq⟩
      dsimp only at e1 hf hq
      subst e1
      refine ⟨((), N), ?_, hf, hq⟩
      dsimp only
      rw [g_X10_costsBack_L64]
      simp (disch := (first | omega | exact (iv_rng _ _ _).1 | exact (iv_rng _ _ _).2)) only [pi_lit, pi_nat, pi_add, pi_sub, pi_mul, pi_neg, pi_le, pi_lt, pi_eq, pi_cn, pi_ci, pi_g, am_b_some, iv_s, iv_ls, lg_s, lg_ls, if_true, if_false, Int.reduceEq, Int.reduceLT, Int.reduceLE, Int.reduceToNat]
      rw [if_pos (by omega)]
  · refine ⟨M, ?_, fr_refl _ _, tc_eq hC (fun t' x' _ _ => ?_)⟩
    · have hrr : iv M 182 (40 * t + x) = 0 := by rw [hR t x (by omega) hx, b01_f hRx]
      rw [show am_fu = 99999 + 1 from rfl, g_X10_costsBack_L64]
      simp (disch := (first | omega | exact (iv_rng _ _ _).1 | exact (iv_rng _ _ _).2)) only [pi_lit, pi_nat, pi_add, pi_sub, pi_mul, pi_neg, pi_le, pi_lt, pi_eq, pi_cn, pi_ci, pi_g, am_b_some, iv_s, iv_ls, lg_s, lg_ls, if_true, if_false, Int.reduceEq, Int.reduceLT, Int.reduceLE, Int.reduceToNat]
      rw [show (40 * (t : Int) + (x : Int)).toNat = 40 * t + x by omega, hrr, if_pos rfl]
    · rw [cif_f hRx]
      by_cases h1 : t' = t ∧ (x' : Int) = x
      · rw [if_pos h1, h1.1, h1.2, hCx]
      · rw [if_neg h1]
end PQ
