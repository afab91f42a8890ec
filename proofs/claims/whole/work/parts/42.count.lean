/-! the class counts the costs -/
section QA
theorem RT_fre {σ : Nat → Int} {r wo : Int} {f : Nat} {c : Int} {n t : Nat} {x : Int} (h : RT σ r wo f c n t x) (ht : f < t) : fre σ r wo x t := by
  induction n with
  | zero => exact absurd h.1 (by omega)
  | succ n ih =>
    rw [RT] at h
    rcases h with h | ⟨y, a, hy, h1, ha, hl, ht2, hx⟩
    · exact ih h
    · have h3 := hl.2.2.1
      rw [hx]
      rw [show ((f + n : Nat) : Int) + tk a = (t : Int) by omega, Int.toNat_natCast] at h3
      exact h3
theorem CO_not {σ : Nat → Int} {r wo : Int} {R : Nat → Int → Prop} {g : Int} {e f t : Nat} {x : Int} (hf : f ≤ t) (ht : t < e) (hR : ¬ R t x) : CO σ r wo R g e (e - f) t x = 1000000 := by
  have h1 : CO σ r wo R g e (e - f) t x = CO σ r wo R g e ((e - 1 - t) + 1) t x := CO_stable (by omega) (by omega)
  rw [h1, CO]
  dsimp only
  rw [if_pos (by omega), cif_f hR]
theorem CO_val {σ : Nat → Int} {r wo : Int} {R : Nat → Int → Prop} {g : Int} {e f t : Nat} {x : Int} (hf : f ≤ t) (ht : t < e) : CO σ r wo R g e (e - f) t x = cif (R t x) (mn (thr σ r wo e (CO σ r wo R g e (e - f)) t x) 7) 1000000 := by
  by_cases h : R t x
  · rw [cif_t h]; exact CO_eq hf ht h
  · rw [cif_f h]; exact CO_not hf ht h
theorem s_count81 {σ : Nat → Int} {r wo : Int} {f e t x : Nat} {M : am_M} (h : FM σ r wo M) (hb : BW M) (hwl : wl σ) (hF : FL σ M) (hx : x < 40) (he : e ≤ 30) (ht : t < e) (C : Nat → Int → Int) (hC0 : ∀ t x, 0 ≤ C t x ∧ C t x ≤ 1000000) (hC : ∀ t' x' : Nat, t < t' → t' ≤ e → x' < 40 → iv M 165 (40 * t' + x') = C t' x') (hn : ∀ t' x' : Nat, t < t' → t' ≤ e → x' < 40 → ¬ fre σ r wo x' t' → C t' x' = 1000000) (y : Int64) : g_X0_countCosts_L81 (pI f) (pI e) (pI t) y (pI x) am_fu (pI 1000000) (pI 0) M = some (pI (cif (pb y x = true) (mn (thr σ r wo e C t x) 7) 1000000), M) := by
  by_cases hy : pb y x = true
  · rw [cif_t hy]
    have hz : ¬ lg_cmp (y &&& bm x) 0 = pI 0 := cmpz_f (a := (x : Int)) (by omega) (by omega) (by rw [Int.toNat_natCast]; exact hy)
    obtain ⟨s, h3, h4⟩ := lo_for (fun m (s : Int32 × Int32 × am_M) => g_X0_countCosts_L81 (pI f) (pI e) (pI t) y (pI x) m s.1 s.2.1 s.2.2) (fun k s => s = (pI (mn (thr σ r wo e C t x) k), pI (k : Nat), M)) (fun s => s = (pI (mn (thr σ r wo e C t x) 7), M)) 0 7 (pI 1000000, pI 0, M) rfl (by omega) (by unfold am_fu; omega) (by
      rintro m k s hk rfl
      left
      refine ⟨_, ?_, rfl⟩
      have b1 := mn_le (thr σ r wo e C t x) k
      have b2 := mn_ge (thr σ r wo e C t x) (fun a => thr_ge (fun t x => (hC0 t x).1) t x a) k
      obtain ⟨v, g1, v1, v2, v3⟩ := s_costThrough h hb hwl hF hx (a := k) (by omega) he ht C hC0 hC hn
      dsimp only
      rw [g_X0_countCosts_L81]
      simp (disch := (first | omega | exact (iv_rng _ _ _).1 | exact (iv_rng _ _ _).2)) only [pi_lit, pi_nat, pi_add, pi_sub, pi_mul, pi_neg, pi_le, pi_lt, pi_eq, pi_cn, pi_ci, pi_g, am_b_some, iv_s, iv_ls, lg_s, lg_ls, if_true, if_false, Int.reduceEq, Int.reduceLT, Int.reduceLE, Int.reduceToNat, s_bit]
      refine (if_neg hz).trans ?_
      rw [if_neg (by omega), g1, am_b_some, mn]
      have e1 : (if (pI v < pI (mn (thr σ r wo e C t x) k)) then pI v else pI (mn (thr σ r wo e C t x) k)) = pI (if thr σ r wo e C t x k < mn (thr σ r wo e C t x) k then thr σ r wo e C t x k else mn (thr σ r wo e C t x) k) := by
        simp (disch := (first | omega | exact (iv_rng _ _ _).1 | exact (iv_rng _ _ _).2)) only [pi_lit, pi_nat, pi_add, pi_sub, pi_mul, pi_neg, pi_le, pi_lt, pi_eq, pi_cn, pi_ci, pi_g, am_b_some, iv_s, iv_ls, lg_s, lg_ls, if_true, if_false, Int.reduceEq, Int.reduceLT, Int.reduceLE, Int.reduceToNat]
        rcases v3 with rfl | ⟨q1, q2⟩
        · split <;> rfl
        · rw [if_neg (by omega), if_neg (by omega)]
      rw [e1]
      rfl) (by
      rintro m s rfl
      refine ⟨_, ?_, rfl⟩
      dsimp only
      rw [g_X0_countCosts_L81]
      simp (disch := (first | omega | exact (iv_rng _ _ _).1 | exact (iv_rng _ _ _).2)) only [pi_lit, pi_nat, pi_add, pi_sub, pi_mul, pi_neg, pi_le, pi_lt, pi_eq, pi_cn, pi_ci, pi_g, am_b_some, iv_s, iv_ls, lg_s, lg_ls, if_true, if_false, Int.reduceEq, Int.reduceLT, Int.reduceLE, Int.reduceToNat, s_bit]
      refine (if_neg hz).trans ?_
      rw [if_pos (by omega)])
    dsimp only at h3
    rw [h3, h4]
  · rw [cif_f hy, show am_fu = 99999 + 1 from rfl, g_X0_countCosts_L81]
    simp (disch := (first | omega | exact (iv_rng _ _ _).1 | exact (iv_rng _ _ _).2)) only [pi_lit, pi_nat, pi_add, pi_sub, pi_mul, pi_neg, pi_le, pi_lt, pi_eq, pi_cn, pi_ci, pi_g, am_b_some, iv_s, iv_ls, lg_s, lg_ls, if_true, if_false, Int.reduceEq, Int.reduceLT, Int.reduceLE, Int.reduceToNat, s_bit]
    exact if_pos (cmpz_t (a := (x : Int)) (by omega) (by omega) (by rw [Int.toNat_natCast]; simpa using hy))
theorem s_count67 {σ : Nat → Int} {r wo : Int} {f e t : Nat} {M : am_M} (h : FM σ r wo M) (hb : BW M) (hwl : wl σ) (hF : FL σ M) (he : e ≤ 30) (ht : t < e) (C : Nat → Int → Int) (hC0 : ∀ t x, 0 ≤ C t x ∧ C t x ≤ 1000000) (hC : ∀ t' x' : Nat, t < t' → t' ≤ e → x' < 40 → iv M 165 (40 * t' + x') = C t' x') (hn : ∀ t' x' : Nat, t < t' → t' ≤ e → x' < 40 → ¬ fre σ r wo x' t' → C t' x' = 1000000) (y : Int64) (hCt : ∀ x : Nat, x < 40 → C t x = cif (pb y x = true) (mn (thr σ r wo e C t x) 7) 1000000) : ∃ N, g_X0_countCosts_L67 (pI f) (pI e) (pI t) y am_fu (pI 0) M = some ((), N) ∧ fr [165] M N ∧ ∀ t' x' : Nat, t ≤ t' → t' ≤ e → x' < 40 → iv N 165 (40 * t' + x') = C t' x' := by
  obtain ⟨⟨u, N⟩, h3, h4⟩ := lo_for (fun m (s : Int32 × am_M) => g_X0_countCosts_L67 (pI f) (pI e) (pI t) y m s.1 s.2) (fun k s => s.1 = pI (k : Nat) ∧ fr [165] M s.2 ∧ (∀ t' x' : Nat, t < t' → t' ≤ e → x' < 40 → iv s.2 165 (40 * t' + x') = C t' x') ∧ ∀ x' : Nat, x' < k → iv s.2 165 (40 * t + x') = C t x') (fun s => fr [165] M s.2 ∧ ∀ t' x' : Nat, t ≤ t' → t' ≤ e → x' < 40 → iv s.2 165 (40 * t' + x') = C t' x') 0 40 (pI 0, M) ⟨rfl, fr_refl _ _, hC, fun x' hx' => by omega⟩ (by omega) (by unfold am_fu; omega) (by
    rintro m k ⟨a, N⟩ hk ⟨e1, hf, q1, q2⟩
    dsimp only at e1 hf q1 q2
    subst e1
    left
    have hN := FM_fr h hf (by decide) (by decide)
    have hBN := BW_fr hb hf (by decide)
    have hFN := FL_fr hF hf (by decide) (by decide) (by decide) (by decide)
    have g1 := s_count81 (f := f) hN hBN hwl hFN (x := k) hk he ht C hC0 q1 hn y
    rw [← hCt k hk] at g1
    have b := hC0 t k
    refine ⟨(pI (k + 1 : Nat), am_s N 165 (40 * t + k) (pI (C t k))), ?_, rfl, fr_trans hf (fr_s (by simp)), fun t' x' p1 p2 p3 => ?_, fun x' p3 => ?_⟩
    · dsimp only
      rw [g_X0_countCosts_L67]
      simp (disch := (first | omega | exact (iv_rng _ _ _).1 | exact (iv_rng _ _ _).2)) only [pi_lit, pi_nat, pi_add, pi_sub, pi_mul, pi_neg, pi_le, pi_lt, pi_eq, pi_cn, pi_ci, pi_g, am_b_some, iv_s, iv_ls, lg_s, lg_ls, if_true, if_false, Int.reduceEq, Int.reduceLT, Int.reduceLE, Int.reduceToNat, g1]
      rw [if_neg (by omega)]
      simp (disch := (first | omega | exact (iv_rng _ _ _).1 | exact (iv_rng _ _ _).2)) only [pi_lit, pi_nat, pi_add, pi_sub, pi_mul, pi_neg, pi_le, pi_lt, pi_eq, pi_cn, pi_ci, pi_g, am_b_some, iv_s, iv_ls, lg_s, lg_ls, if_true, if_false, Int.reduceEq, Int.reduceLT, Int.reduceLE, Int.reduceToNat, s_put]
      rw [show ((t : Int) * 40 + k).toNat = 40 * t + k by omega]
      rfl
    · dsimp only
      simp (disch := (first | omega | exact (iv_rng _ _ _).1 | exact (iv_rng _ _ _).2)) only [pi_lit, pi_nat, pi_add, pi_sub, pi_mul, pi_neg, pi_le, pi_lt, pi_eq, pi_cn, pi_ci, pi_g, am_b_some, iv_s, iv_ls, lg_s, lg_ls]
      rw [if_neg (by omega)]
      exact q1 t' x' p1 p2 p3
    · dsimp only
      simp (disch := (first | omega | exact (iv_rng _ _ _).1 | exact (iv_rng _ _ _).2)) only [pi_lit, pi_nat, pi_add, pi_sub, pi_mul, pi_neg, pi_le, pi_lt, pi_eq, pi_cn, pi_ci, pi_g, am_b_some, iv_s, iv_ls, lg_s, lg_ls]
      by_cases p4 : x' = k
      · subst p4; rw [if_pos (by simp)]
      · rw [if_neg (by omega)]
        exact q2 x' (by omega)) (by
    rintro m ⟨a, N⟩ ⟨e1, hf, q1, q2⟩
    dsimp only at e1 hf q1 q2
    subst e1
    refine ⟨((), N), ?_, hf, fun t' x' p1 p2 p3 => ?_⟩
    · dsimp only
      rw [g_X0_countCosts_L67]
      simp (disch := (first | omega | exact (iv_rng _ _ _).1 | exact (iv_rng _ _ _).2)) only [pi_lit, pi_nat, pi_add, pi_sub, pi_mul, pi_neg, pi_le, pi_lt, pi_eq, pi_cn, pi_ci, pi_g, am_b_some, iv_s, iv_ls, lg_s, lg_ls, if_true, if_false, Int.reduceEq, Int.reduceLT, Int.reduceLE, Int.reduceToNat]
      rw [if_pos (by omega)]
    · by_cases p4 : t' = t
      · subst p4; exact q2 x' p3
      · exact q1 t' x' (by omega) p2 p3)
  exact ⟨N, h3, h4⟩
theorem s_countCosts {σ : Nat → Int} {r wo g : Int} {c f e : Nat} {M : am_M} (h : FM σ r wo M) (hb : BW M) (hwl : wl σ) (hF : FL σ M) (hg : 0 ≤ g ∧ g < 40) (hfe : f ≤ e) (he : e ≤ 30) (hR : tR (fun t x => RT σ r wo f c (30 - f) t x) M) (hRg : RT σ r wo f c (30 - f) e g) : ∃ N, g_X0_countCosts (pI g) (pI f) (pI e) M = some ((), N) ∧ fr [165] M N ∧ ∀ t x : Nat, f ≤ t → t ≤ e → x < 40 → iv N 165 (40 * t + x) = CO σ r wo (RT σ r wo f c (30 - f)) g e (e - f) t x := by
  obtain ⟨C, eC⟩ : ∃ C, C = CO σ r wo (RT σ r wo f c (30 - f)) g e (e - f) := ⟨_, rfl⟩
  have hC0 : ∀ t x, 0 ≤ C t x ∧ C t x ≤ 1000000 := fun t x => by rw [eC]; exact CO_rng _ _ _ _ _ _ _ _ _
  have hCe : ∀ x : Int, C e x = if x = g then 0 else 1000000 := fun x => by rw [eC]; exact CO_end
  rw [← eC]
  obtain ⟨⟨u, N1⟩, g1, f1, p1⟩ := lo_for (fun m (s : Int32 × am_M) => g_X0_countCosts_L3 (pI g) (pI f) (pI e) m s.1 s.2) (fun k s => s.1 = pI (k : Nat) ∧ fr [165] M s.2 ∧ ∀ x : Nat, x < k → iv s.2 165 (40 * e + x) = C e x) (fun s => fr [165] M s.2 ∧ ∀ x : Nat, x < 40 → iv s.2 165 (40 * e + x) = C e x) 0 40 (pI 0, M) ⟨rfl, fr_refl _ _, fun x' hx' => by omega⟩ (by omega) (by unfold am_fu; omega) (by
    rintro m k ⟨a, N⟩ hk ⟨e1, hf, q2⟩
    dsimp only at e1 hf q2
    subst e1
    left
    refine ⟨(pI (k + 1 : Nat), am_s N 165 (40 * e + k) (pI (C e k))), ?_, rfl, fr_trans hf (fr_s (by simp)), fun x' p3 => ?_⟩
    · dsimp only
      rw [g_X0_countCosts_L3, hCe]
      simp (disch := (first | omega | exact (iv_rng _ _ _).1 | exact (iv_rng _ _ _).2)) only [pi_lit, pi_nat, pi_add, pi_sub, pi_mul, pi_neg, pi_le, pi_lt, pi_eq, pi_cn, pi_ci, pi_g, am_b_some, iv_s, iv_ls, lg_s, lg_ls, if_true, if_false, Int.reduceEq, Int.reduceLT, Int.reduceLE, Int.reduceToNat, s_put]
      rw [if_neg (by omega), show ((e : Int) * 40 + k).toNat = 40 * e + k by omega]
      by_cases p4 : (k : Int) = g
      · rw [if_pos p4, if_pos p4]; rfl
      · rw [if_neg p4, if_neg p4]; rfl
    · dsimp only
      have := hC0 e k
      simp (disch := (first | omega | exact (iv_rng _ _ _).1 | exact (iv_rng _ _ _).2)) only [pi_lit, pi_nat, pi_add, pi_sub, pi_mul, pi_neg, pi_le, pi_lt, pi_eq, pi_cn, pi_ci, pi_g, am_b_some, iv_s, iv_ls, lg_s, lg_ls]
      by_cases p4 : x' = k
      · subst p4; rw [if_pos (by simp)]
      · rw [if_neg (by omega)]
        exact q2 x' (by omega)) (by
    rintro m ⟨a, N⟩ ⟨e1, hf, q2⟩
    dsimp only at e1 hf q2
    subst e1
    refine ⟨((), N), ?_, hf, q2⟩
    dsimp only
    rw [g_X0_countCosts_L3]
    simp (disch := (first | omega | exact (iv_rng _ _ _).1 | exact (iv_rng _ _ _).2)) only [pi_lit, pi_nat, pi_add, pi_sub, pi_mul, pi_neg, pi_le, pi_lt, pi_eq, pi_cn, pi_ci, pi_g, am_b_some, iv_s, iv_ls, lg_s, lg_ls, if_true, if_false, Int.reduceEq, Int.reduceLT, Int.reduceLE, Int.reduceToNat]
    rw [if_pos (by omega)])
  dsimp only at g1 f1 p1
  obtain ⟨⟨u2, N2⟩, g2, f2, p2⟩ := lo_for (fun m (s : Int32 × am_M) => g_X0_countCosts_L47 (pI f) (pI e) m s.1 s.2) (fun k s => s.1 = pI ((e : Int) - 1 - k) ∧ fr [165] M s.2 ∧ ∀ t x : Nat, e ≤ t + k → t ≤ e → x < 40 → iv s.2 165 (40 * t + x) = C t x) (fun s => fr [165] M s.2 ∧ ∀ t x : Nat, f ≤ t → t ≤ e → x < 40 → iv s.2 165 (40 * t + x) = C t x) 0 (e - f) (pI ((e : Int) - 1), N1) ⟨by rw [show (e : Int) - 1 - (0 : Nat) = (e : Int) - 1 by omega], f1, fun t x q1 q2 q3 => by
      have : t = e := by omega
      subst this
      exact p1 x q3⟩ (by omega) (by unfold am_fu; omega) (by
    rintro m k ⟨a, N⟩ hk ⟨e1, hf, q⟩
    dsimp only at e1 hf q
    subst e1
    left
    obtain ⟨t, et⟩ : ∃ t : Nat, t = e - 1 - k := ⟨_, rfl⟩
    have hN := FM_fr h hf (by decide) (by decide)
    have hBN := BW_fr hb hf (by decide)
    have hFN := FL_fr hF hf (by decide) (by decide) (by decide) (by decide)
    have hRt := (hR t (by omega)).2
    obtain ⟨O, g3, f3, p3⟩ := s_count67 (f := f) (t := t) hN hBN hwl hFN he (by omega) C hC0 (fun t' x' r1 r2 r3 => q t' x' (by omega) r2 r3) (fun t' x' r1 r2 r3 r4 => by
      by_cases r5 : t' = e
      · subst r5
        rw [hCe]
        rw [if_neg (fun r6 => r4 (by rw [r6]; exact RT_fre hRg (by omega)))]
      · rw [eC]
        exact CO_not (by omega) (by omega) (fun r6 => r4 (RT_fre r6 (by omega)))) (am_lg M 164 t) (fun x hx => by
      have e3 := CO_val (σ := σ) (r := r) (wo := wo) (R := RT σ r wo f c (30 - f)) (g := g) (e := e) (f := f) (t := t) (x := x) (by omega) (by omega)
      rw [← eC] at e3
      rw [e3]
      by_cases r1 : RT σ r wo f c (30 - f) t x
      · rw [cif_t r1, cif_t ((hRt x hx).mpr r1)]
      · rw [cif_f r1, cif_f (fun r2 => r1 ((hRt x hx).mp r2))])
    refine ⟨(pI ((e : Int) - 1 - (k + 1 : Nat)), O), ?_, rfl, fr_trans hf f3, fun t' x r1 r2 r3 => p3 t' x (by omega) r2 r3⟩
    dsimp only
    rw [g_X0_countCosts_L47]
    have g4 : g_X9_maskAt 164 31 (pI ((e : Int) - 1 - k)) N = some (am_lg M 164 t, N) := by
      rw [s_maskAt1 _ _ _ (by omega) (by omega) (by omega), fr_l hf (by decide), show ((e : Int) - 1 - k).toNat = t by omega]
    rw [show (e : Int) - 1 - k = (t : Int) by omega] at g4 ⊢
    simp (disch := (first | omega | exact (iv_rng _ _ _).1 | exact (iv_rng _ _ _).2)) only [pi_lit, pi_nat, pi_add, pi_sub, pi_mul, pi_neg, pi_le, pi_lt, pi_eq, pi_cn, pi_ci, pi_g, am_b_some, iv_s, iv_ls, lg_s, lg_ls, if_true, if_false, Int.reduceEq, Int.reduceLT, Int.reduceLE, Int.reduceToNat, g4]
    rw [if_neg (by omega)]
    rw [show (pI 0) = (0 : Int32) from rfl] at g3
    first
      | rw [g3]
      | erw [g3]
    rw [am_b_some, show (e : Int) - 1 - ((k + 1 : Nat) : Int) = (t : Int) + -1 by omega]
    try rfl) (by
    rintro m ⟨a, N⟩ ⟨e1, hf, q⟩
    dsimp only at e1 hf q
    subst e1
    refine ⟨((), N), ?_, hf, fun t x q1 q2 q3 => q t x (by omega) q2 q3⟩
    dsimp only
    rw [g_X0_countCosts_L47]
    simp (disch := (first | omega | exact (iv_rng _ _ _).1 | exact (iv_rng _ _ _).2)) only [pi_lit, pi_nat, pi_add, pi_sub, pi_mul, pi_neg, pi_le, pi_lt, pi_eq, pi_cn, pi_ci, pi_g, am_b_some, iv_s, iv_ls, lg_s, lg_ls, if_true, if_false, Int.reduceEq, Int.reduceLT, Int.reduceLE, Int.reduceToNat]
    rw [if_pos (by omega)])
  dsimp only at g2 f2 p2
  refine ⟨N2, ?_, f2, p2⟩
  unfold g_X0_countCosts
  simp only [pi_lit]
  rw [show pI (OfNat.ofNat 0 : Int) = pI 0 from rfl, show pI (OfNat.ofNat 1 : Int) = pI 1 from rfl, g1, am_b_some, pi_sub, g2, am_b_some]
end QA
