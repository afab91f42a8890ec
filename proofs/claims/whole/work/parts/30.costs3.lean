/-! the costs backwards, by the model: all of them; the best actions -/
section PP
theorem thr_congr {σ : Nat → Int} {r wo : Int} {e : Nat} {C D : Nat → Int → Int} {t : Nat} (h : ∀ t' x', t < t' → C t' x' = D t' x') (x : Int) : thr σ r wo e C t x = thr σ r wo e D t x := by
  funext a
  unfold thr
  rw [h (t + tk a).toNat (mvs σ x a) (by have := tk_pos a; omega)]
theorem s_costsBack {σ : Nat → Int} {r wo g : Int} {f e : Nat} {M : am_M} (h : MS σ wo M) (hwl : wl σ) (hr : 0 ≤ r ∧ r < 5) (hg : 0 ≤ g ∧ g < 40) (he : e ≤ 30) (hfe : f ≤ e) (R : Nat → Int → Prop) (hR : tb R M) : ∃ N, g_X10_costsBack (pI r) (pI g) (pI f) (pI e) M = some ((), N) ∧ fr [183] M N ∧ tc (CO σ r wo R g e (e - f)) N := by
  have k1 := lo_for (fun m (s : Int32 × am_M) => g_X10_costsBack_L3 (pI r) (pI g) (pI f) (pI e) m s.1 s.2) (fun k s => s.1 = pI (k : Nat) ∧ fr [183] M s.2 ∧ ∀ j, j < k → iv s.2 183 j = 1000000) (fun x => fr [183] M x.2 ∧ ∀ j, j < 1240 → iv x.2 183 j = 1000000) 0 1240 (pI 0, M) ⟨rfl, fr_refl _ _, fun j hj => by omega⟩ (by omega) (by unfold am_fu; omega) ?_ ?_
  · obtain ⟨⟨u9, N1⟩, q1, q2, q3⟩ := k1
    dsimp only at q1 q2 q3
    have hN2 : fr [183] M (am_s N1 183 (40 * e + g).toNat (pI 0)) := fr_trans q2 (fr_s (by simp))
    have ht2 : tc (CO σ r wo R g e 0) (am_s N1 183 (40 * e + g).toNat (pI 0)) := fun t x ht hx => by
      rw [iv_s (by omega) (by omega), q3 _ (by omega)]
      unfold CO
      by_cases h1 : t = e ∧ (x : Int) = g
      · rw [if_pos (by omega), if_pos h1]
      · rw [if_neg (by omega), if_neg h1]
    have k2 := lo_for (fun m (s : Int32 × am_M) => g_X10_costsBack_L45 (pI r) (pI f) (pI e) m s.1 s.2) (fun n s => s.1 = pI ((e : Int) - 1 - n) ∧ fr [183] M s.2 ∧ tc (CO σ r wo R g e n) s.2) (fun x => fr [183] M x.2 ∧ tc (CO σ r wo R g e (e - f)) x.2) 0 (e - f) (pI ((e : Int) - 1), am_s N1 183 (40 * e + g).toNat (pI 0)) ⟨by simp, hN2, ht2⟩ (by omega) (by unfold am_fu; omega) ?_ ?_
    · obtain ⟨⟨u8, N⟩, p1, p2, p3⟩ := k2
      refine ⟨N, ?_, p2, p3⟩
      unfold g_X10_costsBack
      dsimp only at p1
      simp (disch := (first | omega | exact (iv_rng _ _ _).1 | exact (iv_rng _ _ _).2)) only [pi_lit, pi_nat, pi_add, pi_sub, pi_mul, pi_neg, pi_le, pi_lt, pi_eq, pi_cn, pi_ci, pi_g, am_b_some, iv_s, iv_ls, lg_s, lg_ls, if_true, if_false, Int.reduceEq, Int.reduceLT, Int.reduceLE, Int.reduceToNat, q1, p1]
    · rintro m n ⟨a, N⟩ hn ⟨e1, hfr, htc⟩
      dsimp only at e1 hfr htc
      subst e1
      left
      obtain ⟨t, ht⟩ : ∃ t : Nat, t + n + 1 = e := ⟨e - n - 1, by omega⟩
      have ht2 : (e : Int) - 1 - n = t := by omega
      rw [ht2]
      have hstep : ∀ x : Int, CO σ r wo R g e (n + 1) t x = cif (R t x) (mn (thr σ r wo e (CO σ r wo R g e n) t x) 7) 1000000 := fun x => by
        rw [CO]
        dsimp only
        rw [if_pos ht]
      have hoth : ∀ (t' : Nat) (x : Int), t' ≠ t → CO σ r wo R g e (n + 1) t' x = CO σ r wo R g e n t' x := fun t' x ht' => by
        rw [CO]
        dsimp only
        rw [if_neg (by omega)]
      have k3 := lo_for (fun m (s : Int32 × am_M) => g_X10_costsBack_L54 (pI r) (pI f) (pI e) (pI t) m s.1 s.2) (fun j s => s.1 = pI (j : Nat) ∧ fr [183] M s.2 ∧ tc (fun t' x' => if t' = t ∧ x' < j then CO σ r wo R g e (n + 1) t' x' else CO σ r wo R g e n t' x') s.2) (fun x => fr [183] M x.2 ∧ tc (CO σ r wo R g e (n + 1)) x.2) 0 40 (pI 0, N) ⟨rfl, hfr, tc_eq htc (fun t' x' _ _ => by rw [if_neg (by omega)])⟩ (by omega) (by unfold am_fu; omega) ?_ ?_
      · obtain ⟨⟨u7, O⟩, p1, p2, p3⟩ := k3
        refine ⟨(pI ((e : Int) - 1 - (n + 1 : Nat)), O), ?_, rfl, p2, p3⟩
        dsimp only at p1 ⊢
        rw [g_X10_costsBack_L45]
        simp (disch := (first | omega | exact (iv_rng _ _ _).1 | exact (iv_rng _ _ _).2)) only [pi_lit, pi_nat, pi_add, pi_sub, pi_mul, pi_neg, pi_le, pi_lt, pi_eq, pi_cn, pi_ci, pi_g, am_b_some, iv_s, iv_ls, lg_s, lg_ls, if_true, if_false, Int.reduceEq, Int.reduceLT, Int.reduceLE, Int.reduceToNat, p1]
        rw [if_neg (by omega), show (t : Int) + -1 = (e : Int) - 1 - (n + 1 : Nat) by omega]
      · rintro m j ⟨a, O⟩ hj ⟨e1, hfo, hto⟩
        dsimp only at e1 hfo hto
        subst e1
        left
        have hm := MS_fr h hfo (by decide) (by decide) (by decide) (by decide)
        have hRo : tb R O := fun t x ht hx => by rw [fr_i hfo (by decide)]; exact hR t x ht hx
        obtain ⟨O2, g1, g2, g3⟩ := s_costs64 (f := f) (e := e) (t := t) (x := j) hm hwl hr hj he (by omega) R hRo _ hto (fun t' x' => by
          split
          · exact CO_rng _ _ _ _ _ _ _ _ _
          · exact CO_rng _ _ _ _ _ _ _ _ _) (by rw [if_neg (by omega)]; exact CO_low _ _ _ _ _ _ _ _ _ (by omega))
        refine ⟨(pI (j + 1 : Nat), O2), ?_, rfl, fr_trans hfo g2, tc_eq g3 (fun t' x' _ _ => ?_)⟩
        · dsimp only
          rw [g_X10_costsBack_L54]
          simp (disch := (first | omega | exact (iv_rng _ _ _).1 | exact (iv_rng _ _ _).2)) only [pi_lit, pi_nat, pi_add, pi_sub, pi_mul, pi_neg, pi_le, pi_lt, pi_eq, pi_cn, pi_ci, pi_g, am_b_some, iv_s, iv_ls, lg_s, lg_ls, if_true, if_false, Int.reduceEq, Int.reduceLT, Int.reduceLE, Int.reduceToNat, g1]
          rw [if_neg (by omega)]
          rfl
        · by_cases h1 : t' = t ∧ (x' : Int) = j
          · rw [if_pos h1, if_pos (by omega), h1.1, h1.2, hstep, thr_congr (D := CO σ r wo R g e n) (fun t2 x2 h2 => by rw [if_neg (by omega)])]
          · rw [if_neg h1]
            by_cases h2 : t' = t ∧ (x' : Int) < j
            · rw [if_pos h2, if_pos (by omega)]
            · rw [if_neg h2, if_neg (by omega)]
      · rintro m ⟨a, O⟩ ⟨e1, hfo, hto⟩
        dsimp only at e1 hfo hto
        subst e1
        refine ⟨((), O), ?_, hfo, tc_eq hto (fun t' x' _ _ => ?_)⟩
        · dsimp only
          rw [g_X10_costsBack_L54]
          simp (disch := (first | omega | exact (iv_rng _ _ _).1 | exact (iv_rng _ _ _).2)) only [pi_lit, pi_nat, pi_add, pi_sub, pi_mul, pi_neg, pi_le, pi_lt, pi_eq, pi_cn, pi_ci, pi_g, am_b_some, iv_s, iv_ls, lg_s, lg_ls, if_true, if_false, Int.reduceEq, Int.reduceLT, Int.reduceLE, Int.reduceToNat]
          rw [if_pos (by omega)]
        · by_cases h1 : t' = t
          · rw [if_pos (by omega)]
          · rw [if_neg (by omega), hoth t' x' h1]
    · rintro m ⟨a, N⟩ ⟨e1, hfr, htc⟩
      dsimp only at e1 hfr htc
      subst e1
      refine ⟨((), N), ?_, hfr, htc⟩
      dsimp only
      rw [g_X10_costsBack_L45]
      simp (disch := (first | omega | exact (iv_rng _ _ _).1 | exact (iv_rng _ _ _).2)) only [pi_lit, pi_nat, pi_add, pi_sub, pi_mul, pi_neg, pi_le, pi_lt, pi_eq, pi_cn, pi_ci, pi_g, am_b_some, iv_s, iv_ls, lg_s, lg_ls, if_true, if_false, Int.reduceEq, Int.reduceLT, Int.reduceLE, Int.reduceToNat]
      rw [if_pos (by omega)]
  · rintro m k ⟨a, N⟩ hk ⟨e1, hfr, hz⟩
    dsimp only at e1 hfr hz
    subst e1
    left
    refine ⟨(pI (k + 1 : Nat), am_s N 183 k (pI 1000000)), ?_, rfl, fr_trans hfr (fr_s (by simp)), fun j hj => ?_⟩
    · dsimp only
      rw [g_X10_costsBack_L3]
      simp (disch := (first | omega | exact (iv_rng _ _ _).1 | exact (iv_rng _ _ _).2)) only [pi_lit, pi_nat, pi_add, pi_sub, pi_mul, pi_neg, pi_le, pi_lt, pi_eq, pi_cn, pi_ci, pi_g, am_b_some, iv_s, iv_ls, lg_s, lg_ls, if_true, if_false, Int.reduceEq, Int.reduceLT, Int.reduceLE, Int.reduceToNat]
      rw [if_neg (by omega)]
      rfl
    · dsimp only
      rw [iv_s (by omega) (by omega)]
      by_cases h1 : j = k
      · rw [if_pos ⟨rfl, h1⟩]
      · rw [if_neg (by omega)]
        exact hz j (by omega)
  · rintro m ⟨a, N⟩ ⟨e1, hfr, hz⟩
    dsimp only at e1 hfr hz
    subst e1
    refine ⟨((), N), ?_, hfr, hz⟩
    dsimp only
    rw [g_X10_costsBack_L3]
    simp (disch := (first | omega | exact (iv_rng _ _ _).1 | exact (iv_rng _ _ _).2)) only [pi_lit, pi_nat, pi_add, pi_sub, pi_mul, pi_neg, pi_le, pi_lt, pi_eq, pi_cn, pi_ci, pi_g, am_b_some, iv_s, iv_ls, lg_s, lg_ls, if_true, if_false, Int.reduceEq, Int.reduceLT, Int.reduceLE, Int.reduceToNat]
    rw [if_pos (by omega)]
/-- an action is the best there -/
def bst (σ : Nat → Int) (r wo : Int) (e : Nat) (C : Nat → Int → Int) (t : Nat) (x a : Int) : Prop := (t : Int) + tk a ≤ e ∧ leg σ r wo x a t ∧ cst a + C (t + tk a).toNat (mvs σ x a) = C t x
theorem s_isBest {σ : Nat → Int} {r wo : Int} {e t : Nat} {x a : Int} {M : am_M} (h : MS σ wo M) (hwl : wl σ) (hr : 0 ≤ r ∧ r < 5) (hx : 0 ≤ x ∧ x < 40) (ha : 0 ≤ a ∧ a < 7) (he : e ≤ 30) (ht : t < e) (C : Nat → Int → Int) (hC : tc C M) (hC0 : ∀ t x, 0 ≤ C t x ∧ C t x ≤ 1000000) : g_X10_isBest (pI r) (pI x) (pI a) (pI t) (pI e) M = some (pI (b01 (bst σ r wo e C t x a)), M) := by
  have el := s_isLegal (a := a) (c := x) h hwl hr hx ha (by omega : t < 30)
  have hv := mvs_rng hwl hx ha
  have hk3 := tk_pos a
  have hc3 := cst_rng a
  unfold g_X10_isBest
  simp (disch := (first | omega | exact (iv_rng _ _ _).1 | exact (iv_rng _ _ _).2)) only [pi_lit, pi_nat, pi_add, pi_sub, pi_mul, pi_neg, pi_le, pi_lt, pi_eq, pi_cn, pi_ci, pi_g, am_b_some, iv_s, iv_ls, lg_s, lg_ls, if_true, if_false, Int.reduceEq, Int.reduceLT, Int.reduceLE, Int.reduceToNat, s_takes]
  by_cases h1 : (e : Int) < t + tk a
  · rw [if_pos h1, b01_f (fun h2 => by have := h2.1; omega)]
  · rw [if_neg h1]
    by_cases h2 : leg σ r wo x a t
    · rw [b01_t h2] at el
      have h3 : mvs σ x a ≠ -1 := h2.1
      have e1 : iv M 183 (40 * (t + tk a) + mvs σ x a).toNat = C (t + tk a).toNat (mvs σ x a) := by
        have h5 := hC (t + tk a).toNat (mvs σ x a).toNat (by omega) (by omega)
        rw [show 40 * (t + tk a).toNat + (mvs σ x a).toNat = (40 * (t + tk a) + mvs σ x a).toNat by omega] at h5
        rw [h5, show (((mvs σ x a).toNat : Nat) : Int) = mvs σ x a by omega]
      have e2 : iv M 183 (40 * (t : Int) + x).toNat = C t x := by
        have h5 := hC t x.toNat (by omega) (by omega)
        rw [show 40 * t + x.toNat = (40 * (t : Int) + x).toNat by omega] at h5
        rw [h5, show ((x.toNat : Nat) : Int) = x by omega]
      have b1 := hC0 (t + tk a).toNat (mvs σ x a)
      have b2 := hC0 t x
      simp (disch := (first | omega | exact (iv_rng _ _ _).1 | exact (iv_rng _ _ _).2)) only [pi_lit, pi_nat, pi_add, pi_sub, pi_mul, pi_neg, pi_le, pi_lt, pi_eq, pi_cn, pi_ci, pi_g, am_b_some, iv_s, iv_ls, lg_s, lg_ls, if_true, if_false, Int.reduceEq, Int.reduceLT, Int.reduceLE, Int.reduceToNat, el, s_costs, s_mmoved, h.1, e1, e2]
      by_cases h6 : cst a + C (t + tk a).toNat (mvs σ x a) = C t x
      · rw [if_pos h6, b01_t (p := bst σ r wo e C t x a) ⟨by omega, h2, h6⟩]
      · rw [if_neg h6, b01_f (p := bst σ r wo e C t x a) (fun h7 => h6 h7.2.2)]
    · rw [b01_f h2] at el
      simp (disch := (first | omega | exact (iv_rng _ _ _).1 | exact (iv_rng _ _ _).2)) only [pi_lit, pi_nat, pi_add, pi_sub, pi_mul, pi_neg, pi_le, pi_lt, pi_eq, pi_cn, pi_ci, pi_g, am_b_some, iv_s, iv_ls, lg_s, lg_ls, if_true, if_false, Int.reduceEq, Int.reduceLT, Int.reduceLE, Int.reduceToNat, el]
      rw [b01_f (p := bst σ r wo e C t x a) (fun h7 => h2 h7.2.1)]
end PP
