/-! the class avoids a robot -/
section QE
theorem pb_all (y : Nat) (h : y < 40) : pb 1099511627775 y = true := by
  have : ∀ y : Fin 40, pb 1099511627775 y.1 = true := by decide +kernel
  exact this ⟨y, h⟩
theorem s_barRides {k : Nat} {a : Int} {M : am_M} (hk : k ≤ 30) (ha : 5 ≤ a ∧ a < 7) : ∃ N, g_X0_barRides (pI k) (pI a) M = some ((), N) ∧ fr [163] M N ∧ ∀ t a' y : Nat, t < 30 → a' < 7 → y < 40 → (pb (am_lg N 163 (7 * t + a')) y = true ↔ pb (am_lg M 163 (7 * t + a')) y = true ∨ ((a' : Int) = a ∧ t ≤ k ∧ k < t + 3)) := by
  obtain ⟨⟨u, N⟩, g1, f1, p1⟩ := lo_for (fun m (s : Int32 × am_M) => g_X0_barRides_L10 (pI k) (pI a) m s.1 s.2) (fun q s => k - 2 ≤ q ∧ s.1 = pI (q : Nat) ∧ fr [163] M s.2 ∧ ∀ t a' y : Nat, t < 30 → a' < 7 → y < 40 → (pb (am_lg s.2 163 (7 * t + a')) y = true ↔ pb (am_lg M 163 (7 * t + a')) y = true ∨ ((a' : Int) = a ∧ t < q ∧ k < t + 3))) (fun s => fr [163] M s.2 ∧ ∀ t a' y : Nat, t < 30 → a' < 7 → y < 40 → (pb (am_lg s.2 163 (7 * t + a')) y = true ↔ pb (am_lg M 163 (7 * t + a')) y = true ∨ ((a' : Int) = a ∧ t ≤ k ∧ k < t + 3))) (k - 2) (k + 1) (pI (k - 2 : Nat), M) ⟨Nat.le_refl _, rfl, fr_refl _ _, fun t a' y h1 h2 h3 => ⟨Or.inl, fun q => q.elim id (fun z => by omega)⟩⟩ (by omega) (by unfold am_fu; omega) (by
    rintro m q ⟨b, N⟩ hq ⟨hq0, e1, hf, p⟩
    dsimp only at e1 hf p
    subst e1
    left
    by_cases hq3 : q < 30
    · refine ⟨(pI (q + 1 : Nat), am_ls N 163 (7 * q + a.toNat) (am_lg N 163 (7 * q + a.toNat) ||| 1099511627775)), ?_, by omega, rfl, fr_trans hf (fr_ls (by simp)), fun t a' y h1 h2 h3 => ?_⟩
      · dsimp only
        rw [g_X0_barRides_L10]
        have g2 : g_X9_join 163 210 (pI ((q : Int) * 7 + a)) (1099511627775 : Int64) N = some ((), am_ls N 163 (7 * q + a.toNat) (am_lg N 163 (7 * q + a.toNat) ||| 1099511627775)) := by
          rw [s_join _ _ _ _ (by omega) (by omega) (by omega), show ((q : Int) * 7 + a).toNat = 7 * q + a.toNat by omega]
        simp (disch := (first | omega | exact (iv_rng _ _ _).1 | exact (iv_rng _ _ _).2)) only [pi_lit, pi_nat, pi_add, pi_sub, pi_mul, pi_neg, pi_le, pi_lt, pi_eq, pi_cn, pi_ci, pi_g, am_b_some, iv_s, iv_ls, lg_s, lg_ls, if_true, if_false, Int.reduceEq, Int.reduceLT, Int.reduceLE, Int.reduceToNat, g2]
        rw [if_neg (by omega)]
        rfl
      · dsimp only
        rw [lg_ls]
        by_cases h4 : 7 * t + a' = 7 * q + a.toNat
        · rw [if_pos ⟨rfl, h4⟩, pb_or, pb_all y h3, Bool.or_true]
          have : t = q := by omega
          exact ⟨fun _ => Or.inr ⟨by omega, by omega, by omega⟩, fun _ => rfl⟩
        · rw [if_neg (by omega), p t a' y h1 h2 h3]
          constructor
          · rintro (x | x)
            · exact Or.inl x
            · exact Or.inr ⟨x.1, by omega, x.2.2⟩
          · rintro (x | x)
            · exact Or.inl x
            · exact Or.inr ⟨x.1, by omega, x.2.2⟩
    · refine ⟨(pI (q + 1 : Nat), N), ?_, by omega, rfl, hf, fun t a' y h1 h2 h3 => ?_⟩
      · dsimp only
        rw [g_X0_barRides_L10]
        have g2 : g_X9_join 163 210 (pI ((q : Int) * 7 + a)) (1099511627775 : Int64) N = some ((), N) := s_join0 _ _ _ _ (by omega) (by omega) (by omega) (by omega)
        simp (disch := (first | omega | exact (iv_rng _ _ _).1 | exact (iv_rng _ _ _).2)) only [pi_lit, pi_nat, pi_add, pi_sub, pi_mul, pi_neg, pi_le, pi_lt, pi_eq, pi_cn, pi_ci, pi_g, am_b_some, iv_s, iv_ls, lg_s, lg_ls, if_true, if_false, Int.reduceEq, Int.reduceLT, Int.reduceLE, Int.reduceToNat, g2]
        rw [if_neg (by omega)]
        rfl
      · dsimp only
        rw [p t a' y h1 h2 h3]
        constructor
        · rintro (x | x)
          · exact Or.inl x
          · exact Or.inr ⟨x.1, by omega, x.2.2⟩
        · rintro (x | x)
          · exact Or.inl x
          · exact Or.inr ⟨x.1, by omega, x.2.2⟩) (by
    rintro m ⟨b, N⟩ ⟨hq0, e1, hf, p⟩
    dsimp only at e1 hf p
    subst e1
    refine ⟨((), N), ?_, hf, fun t a' y h1 h2 h3 => (p t a' y h1 h2 h3).trans ⟨?_, ?_⟩⟩
    · dsimp only
      rw [g_X0_barRides_L10]
      simp (disch := (first | omega | exact (iv_rng _ _ _).1 | exact (iv_rng _ _ _).2)) only [pi_lit, pi_nat, pi_add, pi_sub, pi_mul, pi_neg, pi_le, pi_lt, pi_eq, pi_cn, pi_ci, pi_g, am_b_some, iv_s, iv_ls, lg_s, lg_ls, if_true, if_false, Int.reduceEq, Int.reduceLT, Int.reduceLE, Int.reduceToNat]
      rw [if_pos (by omega)]
    · rintro (x | x)
      · exact Or.inl x
      · exact Or.inr ⟨x.1, by omega, x.2.2⟩
    · rintro (x | x)
      · exact Or.inl x
      · exact Or.inr ⟨x.1, by omega, x.2.2⟩)
  dsimp only at g1 f1 p1
  refine ⟨N, ?_, f1, p1⟩
  unfold g_X0_barRides
  have ex : (if pI (0 : Int) < (pI (k : Int) - pI 3) + pI 1 then (pI (k : Int) - pI 3) + pI 1 else pI 0) = pI (k - 2 : Nat) := by
    simp (disch := (first | omega | exact (iv_rng _ _ _).1 | exact (iv_rng _ _ _).2)) only [pi_lit, pi_nat, pi_add, pi_sub, pi_mul, pi_neg, pi_le, pi_lt, pi_eq, pi_cn, pi_ci, pi_g, am_b_some, iv_s, iv_ls, lg_s, lg_ls]
    by_cases h1 : (0 : Int) < (k : Int) - 3 + 1
    · rw [if_pos h1, show ((k - 2 : Nat) : Int) = (k : Int) - 3 + 1 by omega]
    · rw [if_neg h1, show ((k - 2 : Nat) : Int) = 0 by omega]
  rw [show (0 : Int32) = pI 0 from rfl, show (3 : Int32) = pI 3 from rfl, show (1 : Int32) = pI 1 from rfl, ex, g1, am_b_some]
def bk (a : Int) : Int := if a < 3 then a + 2 else a - 2
/-- what a robot closes and bars -/
theorem s_avoid {p : Nat} {C : Int} {P A : Nat → Int} {M : am_M} (hC : 0 ≤ C ∧ C ≤ 1000) (hP : ∀ N, fr [162, 163] M N → ∀ t : Nat, t ≤ 31 → g_X2_placeAt p (pI (C + t)) N = some (pI (P t), N)) (hA : ∀ N, fr [162, 163] M N → ∀ t : Nat, t ≤ 30 → g_X2_actionAt p (pI (C + t)) N = some (pI (A t), N)) (hPr : ∀ t, -3 ≤ P t ∧ P t < 40) (hAr : ∀ t, 0 ≤ A t ∧ A t < 7) : ∃ N, g_X0_avoid p (pI C) M = some ((), N) ∧ fr [162, 163] M N ∧ (∀ t c : Nat, t ≤ 30 → c < 40 → (pb (am_lg N 162 t) c = true ↔ pb (am_lg M 162 t) c = true ∨ P t = c)) ∧ ∀ t a y : Nat, t < 30 → a < 7 → y < 40 → (pb (am_lg N 163 (7 * t + a)) y = true ↔ pb (am_lg M 163 (7 * t + a)) y = true ∨ ((1 ≤ A t ∧ A t < 5) ∧ bk (A t) = a ∧ P (t + 1) = y) ∨ (5 ≤ a ∧ ∃ k : Nat, t ≤ k ∧ k < t + 3 ∧ k ≤ 30 ∧ A k = a)) := by
  obtain ⟨⟨u, N⟩, g1, f1, p1, p2⟩ := lo_for (fun m (s : Int32 × am_M) => g_X0_avoid_L2 p (pI C) m s.1 s.2) (fun q s => s.1 = pI (q : Nat) ∧ fr [162, 163] M s.2 ∧ (∀ t c : Nat, t ≤ 30 → c < 40 → (pb (am_lg s.2 162 t) c = true ↔ pb (am_lg M 162 t) c = true ∨ (t < q ∧ P t = c))) ∧ ∀ t a y : Nat, t < 30 → a < 7 → y < 40 → (pb (am_lg s.2 163 (7 * t + a)) y = true ↔ pb (am_lg M 163 (7 * t + a)) y = true ∨ (t < q ∧ (1 ≤ A t ∧ A t < 5) ∧ bk (A t) = a ∧ P (t + 1) = y) ∨ (5 ≤ a ∧ ∃ k : Nat, t ≤ k ∧ k < t + 3 ∧ k < q ∧ A k = a))) (fun s => fr [162, 163] M s.2 ∧ (∀ t c : Nat, t ≤ 30 → c < 40 → (pb (am_lg s.2 162 t) c = true ↔ pb (am_lg M 162 t) c = true ∨ P t = c)) ∧ ∀ t a y : Nat, t < 30 → a < 7 → y < 40 → (pb (am_lg s.2 163 (7 * t + a)) y = true ↔ pb (am_lg M 163 (7 * t + a)) y = true ∨ ((1 ≤ A t ∧ A t < 5) ∧ bk (A t) = a ∧ P (t + 1) = y) ∨ (5 ≤ a ∧ ∃ k : Nat, t ≤ k ∧ k < t + 3 ∧ k ≤ 30 ∧ A k = a))) 0 31 (pI 0, M) ⟨rfl, fr_refl _ _, fun t c h1 h2 => ⟨Or.inl, fun q => q.elim id (fun z => by omega)⟩, fun t a y h1 h2 h3 => ⟨Or.inl, fun q => q.elim id (fun z => z.elim (fun z => by omega) (fun ⟨_, k, z⟩ => by omega))⟩⟩ (by omega) (by unfold am_fu; omega) (by
    rintro m q ⟨b, N⟩ hq ⟨e1, hf, c1, c2⟩
    dsimp only at e1 hf c1 c2
    subst e1
    left
    have hPq := hPr q
    have hAq := hAr q
    have hPq1 := hPr (q + 1)
    have g2 := hP N hf q (by omega)
    have f3 : fr [162, 163] N (am_ls N 162 q (am_lg N 162 q ||| bm (P q))) := fr_ls (by simp)
    have g3 := hA _ (fr_trans hf f3) q (by omega)
    have g4 := hP _ (fr_trans hf f3) (q + 1) (by omega)
    have hcl : ∀ t c : Nat, t ≤ 30 → c < 40 → (pb (am_lg (am_ls N 162 q (am_lg N 162 q ||| bm (P q))) 162 t) c = true ↔ pb (am_lg M 162 t) c = true ∨ (t < q + 1 ∧ P t = c)) := fun t c h1 h2 => by
      rw [lg_ls]
      by_cases h3 : t = q
      · subst h3
        rw [if_pos ⟨rfl, rfl⟩, pb_or, Bool.or_eq_true, c1 t c h1 h2, pb_bm, decide_eq_true_eq]
        constructor
        · rintro ((x | x) | x)
          · exact Or.inl x
          · omega
          · exact Or.inr ⟨by omega, x.2.2.symm⟩
        · rintro (x | x)
          · exact Or.inl (Or.inl x)
          · exact Or.inr ⟨by omega, by omega, x.2.symm⟩
      · rw [if_neg (by omega), c1 t c h1 h2]
        constructor
        · rintro (x | x)
          · exact Or.inl x
          · exact Or.inr ⟨by omega, x.2⟩
        · rintro (x | x)
          · exact Or.inl x
          · exact Or.inr ⟨by omega, x.2⟩
    have hstep : g_X0_avoid_L2 p (pI C) (m + 1) (pI (q : Nat)) N = (if A q < 5 then (if A q = 0 then g_X0_avoid_L2 p (pI C) m (pI (q + 1 : Nat)) (am_ls N 162 q (am_lg N 162 q ||| bm (P q))) else g_X0_avoid_J73 (g_X0_avoid_L2 p (pI C) m) p (pI C) (pI (q : Nat)) (pI (bk (A q))) (am_ls N 162 q (am_lg N 162 q ||| bm (P q)))) else am_b (g_X0_barRides (pI (q : Nat)) (pI (A q)) (am_ls N 162 q (am_lg N 162 q ||| bm (P q)))) (fun _ M23 => (g_X0_avoid_L2 p (pI C) m (pI (q + 1 : Nat)) M23))) := by
      rw [g_X0_avoid_L2]
      simp (disch := (first | omega | exact (iv_rng _ _ _).1 | exact (iv_rng _ _ _).2)) only [pi_lit, pi_nat, pi_add, pi_sub, pi_mul, pi_neg, pi_le, pi_lt, pi_eq, pi_cn, pi_ci, pi_g, am_b_some, iv_s, iv_ls, lg_s, lg_ls, if_true, if_false, Int.reduceEq, Int.reduceLT, Int.reduceLE, Int.reduceToNat, g2, s_bit, s_join, Int.toNat_natCast, g3]
      rw [if_neg (by omega)]
      by_cases h5 : A q < 5
      · rw [if_pos h5, if_pos h5]
        by_cases h6 : A q = 0
        · rw [if_pos h6, if_pos h6]; rfl
        · rw [if_neg h6, if_neg h6]
          unfold bk
          by_cases h7 : A q < 3
          · rw [if_pos h7, if_pos h7]
          · rw [if_neg h7, if_neg h7]
      · rw [if_neg h5, if_neg h5]; rfl
    dsimp only
    rw [hstep]
    by_cases h5 : A q < 5
    · rw [if_pos h5]
      by_cases h6 : A q = 0
      · rw [if_pos h6]
        refine ⟨(pI (q + 1 : Nat), am_ls N 162 q (am_lg N 162 q ||| bm (P q))), rfl, rfl, fr_trans hf f3, hcl, fun t a y h1 h2 h3 => ?_⟩
        dsimp only
        rw [lg_ls, if_neg (by omega), c2 t a y h1 h2 h3]
        constructor
        · rintro (x | x | ⟨x, k, z⟩)
          · exact Or.inl x
          · exact Or.inr (Or.inl ⟨by omega, x.2⟩)
          · exact Or.inr (Or.inr ⟨x, k, z.1, z.2.1, by omega, z.2.2.2⟩)
        · rintro (x | x | ⟨x, k, z⟩)
          · exact Or.inl x
          · by_cases h8 : t = q
            · subst h8; omega
            · exact Or.inr (Or.inl ⟨by omega, x.2⟩)
          · by_cases h8 : k = q
            · subst h8; omega
            · exact Or.inr (Or.inr ⟨x, k, z.1, z.2.1, by omega, z.2.2.2⟩)
      · rw [if_neg h6]
        obtain ⟨w, ew⟩ : ∃ w : Nat, (w : Int) = bk (A q) ∧ w < 7 := by
          unfold bk
          by_cases h7 : A q < 3
          · rw [if_pos h7]; exact ⟨(A q + 2).toNat, by omega, by omega⟩
          · rw [if_neg h7]; exact ⟨(A q - 2).toNat, by omega, by omega⟩
        have hw5 : w < 5 := by
          have := ew.1
          unfold bk at this
          split at this <;> omega
        obtain ⟨L2, eL2⟩ : ∃ L2, L2 = am_ls N 162 q (am_lg N 162 q ||| bm (P q)) := ⟨_, rfl⟩
        rw [← eL2] at g4 hcl f3 ⊢
        have hb : ∀ i, am_lg L2 163 i = am_lg N 163 i := fun i => by rw [eL2, lg_ls, if_neg (by omega)]
        by_cases hq3 : q < 30
        · refine ⟨(pI (q + 1 : Nat), am_ls L2 163 (7 * q + w) (am_lg L2 163 (7 * q + w) ||| bm (P (q + 1)))), ?_, rfl, fr_trans hf (fr_trans f3 (fr_ls (by simp))), fun t c h1 h2 => ?_, fun t a y h1 h2 h3 => ?_⟩
          · unfold g_X0_avoid_J73
            have g5 : g_X9_join 163 210 (pI ((q : Int) * 7 + w)) (bm (P (q + 1))) L2 = some ((), am_ls L2 163 (7 * q + w) (am_lg L2 163 (7 * q + w) ||| bm (P (q + 1)))) := by
              rw [s_join _ _ _ _ (by omega) (by omega) (by omega), show ((q : Int) * 7 + w).toNat = 7 * q + w by omega]
            rw [show C + ((q + 1 : Nat) : Int) = C + q + 1 by omega] at g4
            rw [← ew.1]
            simp (disch := (first | omega | exact (iv_rng _ _ _).1 | exact (iv_rng _ _ _).2)) only [pi_lit, pi_nat, pi_add, pi_sub, pi_mul, pi_neg, pi_le, pi_lt, pi_eq, pi_cn, pi_ci, pi_g, am_b_some, iv_s, iv_ls, lg_s, lg_ls, if_true, if_false, Int.reduceEq, Int.reduceLT, Int.reduceLE, Int.reduceToNat, g4, s_bit, g5]
            rfl
          · dsimp only
            rw [lg_ls, if_neg (by omega)]
            exact hcl t c h1 h2
          · dsimp only
            rw [lg_ls]
            by_cases h8 : 7 * t + a = 7 * q + w
            · have h9 : t = q := by omega
              have h10 : a = w := by omega
              subst h9 h10
              rw [if_pos ⟨rfl, rfl⟩, pb_or, Bool.or_eq_true, hb, c2 t a y h1 h2 h3, pb_bm, decide_eq_true_eq]
              constructor
              · rintro ((x | x | ⟨x, k, z⟩) | x)
                · exact Or.inl x
                · omega
                · omega
                · exact Or.inr (Or.inl ⟨by omega, by omega, ew.1.symm, x.2.2.symm⟩)
              · rintro (x | x | ⟨x, k, z⟩)
                · exact Or.inl (Or.inl x)
                · exact Or.inr ⟨by omega, by omega, x.2.2.2.symm⟩
                · omega
            · rw [if_neg (by omega), hb, c2 t a y h1 h2 h3]
              constructor
              · rintro (x | x | ⟨x, k, z⟩)
                · exact Or.inl x
                · exact Or.inr (Or.inl ⟨by omega, x.2⟩)
                · exact Or.inr (Or.inr ⟨x, k, z.1, z.2.1, by omega, z.2.2.2⟩)
              · rintro (x | x | ⟨x, k, z⟩)
                · exact Or.inl x
                · by_cases h9 : t = q
                  · subst h9
                    have := ew.1
                    have := x.2.2.1
                    exact absurd h8 (by omega)
                  · exact Or.inr (Or.inl ⟨by omega, x.2⟩)
                · by_cases h9 : k = q
                  · subst h9; omega
                  · exact Or.inr (Or.inr ⟨x, k, z.1, z.2.1, by omega, z.2.2.2⟩)
        · refine ⟨(pI (q + 1 : Nat), L2), ?_, rfl, fr_trans hf f3, hcl, fun t a y h1 h2 h3 => ?_⟩
          · unfold g_X0_avoid_J73
            have g5 : g_X9_join 163 210 (pI ((q : Int) * 7 + w)) (bm (P (q + 1))) L2 = some ((), L2) := s_join0 _ _ _ _ (by omega) (by omega) (by omega) (by omega)
            rw [show C + ((q + 1 : Nat) : Int) = C + q + 1 by omega] at g4
            rw [← ew.1]
            simp (disch := (first | omega | exact (iv_rng _ _ _).1 | exact (iv_rng _ _ _).2)) only [pi_lit, pi_nat, pi_add, pi_sub, pi_mul, pi_neg, pi_le, pi_lt, pi_eq, pi_cn, pi_ci, pi_g, am_b_some, iv_s, iv_ls, lg_s, lg_ls, if_true, if_false, Int.reduceEq, Int.reduceLT, Int.reduceLE, Int.reduceToNat, g4, s_bit, g5]
            rfl
          · dsimp only
            rw [hb, c2 t a y h1 h2 h3]
            constructor
            · rintro (x | x | ⟨x, k, z⟩)
              · exact Or.inl x
              · exact Or.inr (Or.inl ⟨by omega, x.2⟩)
              · exact Or.inr (Or.inr ⟨x, k, z.1, z.2.1, by omega, z.2.2.2⟩)
            · rintro (x | x | ⟨x, k, z⟩)
              · exact Or.inl x
              · exact Or.inr (Or.inl ⟨by omega, x.2⟩)
              · by_cases h9 : k = q
                · subst h9; omega
                · exact Or.inr (Or.inr ⟨x, k, z.1, z.2.1, by omega, z.2.2.2⟩)
    · rw [if_neg h5]
      obtain ⟨O, g6, f6, p6⟩ := s_barRides (k := q) (a := A q) (M := am_ls N 162 q (am_lg N 162 q ||| bm (P q))) (by omega) (by omega)
      refine ⟨(pI (q + 1 : Nat), O), ?_, rfl, fr_trans hf (fr_trans f3 (fr_mono f6 (by simp))), fun t c h1 h2 => ?_, fun t a y h1 h2 h3 => ?_⟩
      · rw [g6, am_b_some]
      · dsimp only
        rw [fr_l f6 (by decide)]
        exact hcl t c h1 h2
      · dsimp only
        rw [p6 t a y h1 h2 h3, lg_ls, if_neg (by omega), c2 t a y h1 h2 h3]
        constructor
        · rintro ((x | x | ⟨x, k, z⟩) | x)
          · exact Or.inl x
          · exact Or.inr (Or.inl ⟨by omega, x.2⟩)
          · exact Or.inr (Or.inr ⟨x, k, z.1, z.2.1, by omega, z.2.2.2⟩)
          · exact Or.inr (Or.inr ⟨by omega, q, x.2.1, x.2.2, by omega, x.1.symm⟩)
        · rintro (x | x | ⟨x, k, z⟩)
          · exact Or.inl (Or.inl x)
          · by_cases h9 : t = q
            · subst h9; omega
            · exact Or.inl (Or.inr (Or.inl ⟨by omega, x.2⟩))
          · by_cases h9 : k = q
            · subst h9; exact Or.inr ⟨z.2.2.2.symm, z.1, z.2.1⟩
            · exact Or.inl (Or.inr (Or.inr ⟨x, k, z.1, z.2.1, by omega, z.2.2.2⟩))) (by
    rintro m ⟨b, N⟩ ⟨e1, hf, c1, c2⟩
    dsimp only at e1 hf c1 c2
    subst e1
    refine ⟨((), N), ?_, hf, fun t c h1 h2 => (c1 t c h1 h2).trans ⟨?_, ?_⟩, fun t a y h1 h2 h3 => (c2 t a y h1 h2 h3).trans ⟨?_, ?_⟩⟩
    · dsimp only
      rw [g_X0_avoid_L2]
      simp (disch := (first | omega | exact (iv_rng _ _ _).1 | exact (iv_rng _ _ _).2)) only [pi_lit, pi_nat, pi_add, pi_sub, pi_mul, pi_neg, pi_le, pi_lt, pi_eq, pi_cn, pi_ci, pi_g, am_b_some, iv_s, iv_ls, lg_s, lg_ls, if_true, if_false, Int.reduceEq, Int.reduceLT, Int.reduceLE, Int.reduceToNat]
      rw [if_pos (by omega)]
    · rintro (x | x)
      · exact Or.inl x
      · exact Or.inr x.2
    · rintro (x | x)
      · exact Or.inl x
      · exact Or.inr ⟨by omega, x⟩
    · rintro (x | x | ⟨x, k, z⟩)
      · exact Or.inl x
      · exact Or.inr (Or.inl x.2)
      · exact Or.inr (Or.inr ⟨x, k, z.1, z.2.1, by omega, z.2.2.2⟩)
    · rintro (x | x | ⟨x, k, z⟩)
      · exact Or.inl x
      · exact Or.inr (Or.inl ⟨by omega, x⟩)
      · exact Or.inr (Or.inr ⟨x, k, z.1, z.2.1, by omega, z.2.2.2⟩))
  dsimp only at g1 f1 p1 p2
  refine ⟨N, ?_, f1, p1, p2⟩
  unfold g_X0_avoid
  rw [show (0 : Int32) = pI 0 from rfl, g1, am_b_some]
end QE
