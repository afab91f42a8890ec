/-! the class spreads as the table says -/
section PH
theorem FM_fr {σ : Nat → Int} {r wo : Int} {M N : am_M} (h : FM σ r wo M) {X : List Nat} (hf : fr X M N) (h1 : 162 ∉ X) (h2 : 163 ∉ X) : FM σ r wo N := by
  refine ⟨fun t c a b => ?_, fun t a y b1 b2 b3 b4 b5 => ?_, fun t l y b1 b2 b3 => ?_⟩
  · rw [fr_l hf h1]; exact h.1 t c a b
  · rw [fr_l hf h2]; exact h.2.1 t a y b1 b2 b3 b4 b5
  · rw [fr_l hf h2]; exact h.2.2 t l y b1 b2 b3
theorem s_spread {σ : Nat → Int} {r wo : Int} {c f : Nat} {M : am_M} (h : FM σ r wo M) (hwl : wl σ) (hF : FL σ M) (hc : c < 40) (hf : f ≤ 30) : ∃ N, g_X0_spread (pI c) (pI f) M = some ((), N) ∧ fr [164] M N ∧ tR (fun t x => RT σ r wo f c (30 - f) t x) N := by
  obtain ⟨N1, g1, f1, p1⟩ := s_fillMasks 164 31 0 M (by omega)
  have f2 : fr [164] M (am_ls N1 164 f (am_lg N1 164 f ||| bm c)) := fr_trans f1 (fr_ls (by simp))
  have t2 : tR (fun t x => RT σ r wo f c 0 t x) (am_ls N1 164 f (am_lg N1 164 f ||| bm c)) := fun t ht => by
    rw [lg_ls]
    by_cases h1 : t = f
    · rw [if_pos ⟨rfl, h1⟩, p1, if_pos (by omega)]
      refine ⟨inb_or inb_zero (inb_bm _), fun x hx => ?_⟩
      rw [pb_or, pb_zero, pb_bm, Bool.false_or, decide_eq_true_eq]
      unfold RT
      constructor
      · intro h2; exact ⟨h1, by omega⟩
      · intro h2; omega
    · rw [if_neg (by omega), p1, if_pos (by omega)]
      refine ⟨inb_zero, fun x hx => ?_⟩
      rw [pb_zero]
      unfold RT
      constructor
      · intro h2; cases h2
      · intro h2; exact absurd h2.1 h1
  have key := lo_for (fun m (s : Int32 × am_M) => g_X0_spread_L22 m s.1 s.2) (fun k s => f ≤ k ∧ s.1 = pI (k : Nat) ∧ fr [164] M s.2 ∧ tR (fun t x => RT σ r wo f c (k - f) t x) s.2) (fun y => fr [164] M y.2 ∧ tR (fun t x => RT σ r wo f c (30 - f) t x) y.2) f 30 (pI f, am_ls N1 164 f (am_lg N1 164 f ||| bm c)) ⟨Nat.le_refl _, rfl, f2, by rw [Nat.sub_self]; exact t2⟩ hf (by unfold am_fu; omega) ?_ ?_
  · obtain ⟨⟨u9, N⟩, h3, h4⟩ := key
    refine ⟨N, ?_, h4⟩
    unfold g_X0_spread
    dsimp only at h3
    rw [show (g_X9_fillMasks 164 31 (0 : Int64) M) = some ((), N1) from g1, am_b_some]
    simp (disch := (first | omega | exact (iv_rng _ _ _).1 | exact (iv_rng _ _ _).2)) only [pi_lit, pi_nat, pi_add, pi_sub, pi_mul, pi_neg, pi_le, pi_lt, pi_eq, pi_cn, pi_ci, pi_g, am_b_some, iv_s, iv_ls, lg_s, lg_ls, if_true, if_false, Int.reduceEq, Int.reduceLT, Int.reduceLE, Int.reduceToNat, s_bit, s_join, Int.toNat_natCast, h3]
  · rintro m k ⟨a, N⟩ hk ⟨hfk, e1, hfr, hp⟩
    dsimp only at e1 hfr hp
    subst e1
    left
    have hN := FM_fr h hfr (by decide) (by decide)
    have hFN := FL_fr hF hfr (by decide) (by decide) (by decide) (by decide)
    have hhere := hp k (by omega)
    obtain ⟨y, g2, i2, p2⟩ := s_spread45 (t := k) (M := N) hk hhere.1
    have f3 : fr [164] N (am_ls N 164 (k + 1) (am_lg N 164 (k + 1) ||| (y &&& (am_lg N 162 (k + 1) ^^^ (-1 : Int64))))) := fr_ls (by simp)
    have hF3 := FL_fr hFN f3 (by decide) (by decide) (by decide) (by decide)
    have t3 : tR (fun t x => RT σ r wo f c (k - f) t x ∨ (t = k + 1 ∧ pb (am_lg N 162 (k + 1)) x = false ∧ pb y x = true)) (am_ls N 164 (k + 1) (am_lg N 164 (k + 1) ||| (y &&& (am_lg N 162 (k + 1) ^^^ (-1 : Int64))))) := fun t ht => by
      rw [lg_ls]
      by_cases h1 : t = k + 1
      · rw [if_pos ⟨rfl, h1⟩]
        subst h1
        refine ⟨inb_or (hp _ ht).1 (inb_and i2), fun x hx => ?_⟩
        rw [pb_or, Bool.or_eq_true, (hp _ ht).2 x hx, pb_and, Bool.and_eq_true, pb_not _ (by omega), Bool.not_eq_true']
        exact ⟨fun q => q.elim Or.inl (fun z => Or.inr ⟨rfl, z.2, z.1⟩), fun q => q.elim Or.inl (fun z => Or.inr ⟨z.2.2, z.2.1⟩)⟩
      · rw [if_neg (by omega)]
        exact ⟨(hp _ ht).1, fun x hx => ((hp _ ht).2 x hx).trans ⟨Or.inl, fun q => q.elim id (fun z => absurd z.1 h1)⟩⟩
    obtain ⟨O, g4, f4, p4⟩ := s_spread118 (t := k) (x := am_lg N 164 k) hwl hF3 hk _ t3
    refine ⟨(pI (k + 1 : Nat), O), ?_, by omega, rfl, fr_trans hfr (fr_trans f3 f4), fun t ht => ⟨(p4 t ht).1, fun x hx => ?_⟩⟩
    · dsimp only
      rw [g_X0_spread_L22]
      simp (disch := (first | omega | exact (iv_rng _ _ _).1 | exact (iv_rng _ _ _).2)) only [pi_lit, pi_nat, pi_add, pi_sub, pi_mul, pi_neg, pi_le, pi_lt, pi_eq, pi_cn, pi_ci, pi_g, am_b_some, iv_s, iv_ls, lg_s, lg_ls, if_true, if_false, Int.reduceEq, Int.reduceLT, Int.reduceLE, Int.reduceToNat, s_maskAt1, s_join, Int.toNat_natCast, g2]
      rw [if_neg (by omega), show ((k : Int) + 1).toNat = k + 1 by omega, g4, am_b_some]
      rfl
    · have e := RT_succ hN hwl (RT σ r wo f c (k - f)) hk ht hx
      have hd : ∀ d : Nat, d < 40 → (pb (am_lg N 164 k) d = true ↔ RT σ r wo f c (k - f) k d) := fun d hd => hhere.2 d hd
      have hy := p2 x hx
      refine ((p4 t ht).2 x hx).trans ?_
      have hgoal : (RT σ r wo f c (k + 1 - f) t x) ↔ (RT σ r wo f c (k - f) t x ∨ ∃ y a : Int, (0 ≤ y ∧ y < 40) ∧ RT σ r wo f c (k - f) k y ∧ (0 ≤ a ∧ a < 7) ∧ leg σ r wo y a k ∧ (t : Int) = (k : Nat) + tk a ∧ (x : Int) = mvs σ y a) := by
        rw [show k + 1 - f = (k - f) + 1 by omega, RT, show f + (k - f) = k by omega]
      refine Iff.trans ?_ hgoal.symm
      rw [e]
      constructor
      · rintro ((q | ⟨q1, q2, q3⟩) | ⟨q1, q2, l, d, q3, q4, q5, q6, q7⟩)
        · exact Or.inl q
        · refine Or.inr (Or.inl ⟨q1, q2, ?_⟩)
          rcases hy.mp q3 with q4 | ⟨a, d, q4, q5, q6, q7, q8⟩
          · exact Or.inl ((hd x hx).mp q4)
          · exact Or.inr ⟨a, d, q4, q5, q6, (hd d q6).mp q7, q8⟩
        · exact Or.inr (Or.inr ⟨q1, q2, l, d, q3, q4, (hd d q4).mp q5, q6, q7⟩)
      · rintro (q | (⟨q1, q2, q3⟩ | ⟨q1, q2, l, d, q3, q4, q5, q6, q7⟩))
        · exact Or.inl (Or.inl q)
        · refine Or.inl (Or.inr ⟨q1, q2, hy.mpr ?_⟩)
          rcases q3 with q4 | ⟨a, d, q4, q5, q6, q7, q8⟩
          · exact Or.inl ((hd x hx).mpr q4)
          · exact Or.inr ⟨a, d, q4, q5, q6, (hd d q6).mpr q7, q8⟩
        · exact Or.inr ⟨q1, q2, l, d, q3, q4, (hd d q4).mpr q5, q6, q7⟩
  · rintro m ⟨a, N⟩ ⟨hfk, e1, hfr, hp⟩
    dsimp only at e1 hfr hp
    subst e1
    refine ⟨((), N), ?_, hfr, hp⟩
    dsimp only
    rw [g_X0_spread_L22]
    simp (disch := (first | omega | exact (iv_rng _ _ _).1 | exact (iv_rng _ _ _).2)) only [pi_lit, pi_nat, pi_add, pi_sub, pi_mul, pi_neg, pi_le, pi_lt, pi_eq, pi_cn, pi_ci, pi_g, am_b_some, iv_s, iv_ls, lg_s, lg_ls, if_true, if_false, Int.reduceEq, Int.reduceLT, Int.reduceLE, Int.reduceToNat]
    rw [if_pos (by omega)]
end PH
