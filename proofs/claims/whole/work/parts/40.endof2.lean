/-! where a route of the class would end: the least time of the table -/
section PF
theorem s_endOf {σ : Nat → Int} {r wo g fin : Int} {c f : Nat} {M : am_M} (h : FM σ r wo M) (hwl : wl σ) (hF : FL σ M) (hc : c < 40) (hf : f ≤ 30) (hg : 0 ≤ g ∧ g < 40) (hfin : 0 ≤ fin ∧ fin ≤ 1) (ht : iv M 158 3 = f) (hl : iv M 160 f = c) : ∃ (x : Int) (N : am_M), g_X0_endOf 158 (pI g) (pI fin) M = some (pI x, N) ∧ fr [164] M N ∧ tR (fun t x => RT σ r wo f c (30 - f) t x) N ∧ ((∃ e : Nat, x = e ∧ f ≤ e ∧ e ≤ 30 ∧ okE σ r wo f c g fin e ∧ ∀ e', f ≤ e' → e' < e → ¬ okE σ r wo f c g fin e') ∨ (x = -1 ∧ ∀ e', f ≤ e' → e' ≤ 30 → ¬ okE σ r wo f c g fin e')) := by
  obtain ⟨N, g1, f1, t1⟩ := s_spread h hwl hF hc hf
  have hN := FM_fr h f1 (by decide) (by decide)
  obtain ⟨F, g2, b1, b2, b3⟩ := s_endOf19 (fin := fin) hN hg hf hfin
  have hok : ∀ e : Nat, f ≤ e → e ≤ 30 → (okE σ r wo f c g fin e ↔ F ≤ e ∧ RT σ r wo f c (30 - f) e g) := fun e e1 e2 => by
    unfold okE
    rw [b3 e e1 e2]
    exact ⟨fun x => ⟨x.2, x.1⟩, fun x => ⟨x.2, x.1⟩⟩
  have hre : ∀ e : Nat, e ≤ 30 → (pb (am_lg N 164 e) g.toNat = true ↔ RT σ r wo f c (30 - f) e g) := fun e e2 => by
    have := (t1 e e2).2 g.toNat (by omega)
    dsimp only at this
    rw [show ((g.toNat : Nat) : Int) = g by omega] at this
    exact this
  obtain ⟨y, g3, hy⟩ := lo_for (fun m (s : Int32 × am_M) => g_X0_endOf_L61 (pI g) m s.1 s.2) (fun k s => F ≤ k ∧ s = (pI (k : Nat), N) ∧ ∀ e, F ≤ e → e < k → ¬ RT σ r wo f c (30 - f) e g) (fun y => (∃ e : Nat, y = ((87, pI e), N) ∧ F ≤ e ∧ e ≤ 30 ∧ RT σ r wo f c (30 - f) e g ∧ ∀ e', F ≤ e' → e' < e → ¬ RT σ r wo f c (30 - f) e' g) ∨ (∃ v, y = ((96, v), N)) ∧ ∀ e, F ≤ e → e ≤ 30 → ¬ RT σ r wo f c (30 - f) e g) F 31 (pI F, N) ⟨Nat.le_refl _, rfl, fun e e1 e2 => by omega⟩ b2 (by unfold am_fu; omega) (by
    rintro m k s hk ⟨hFk, rfl, hno⟩
    have hstep : g_X0_endOf_L61 (pI g) (m + 1) (pI (k : Nat)) N = if pb (am_lg N 164 k) g.toNat = true then some ((87, pI (k : Nat)), N) else g_X0_endOf_L61 (pI g) m (pI (k + 1 : Nat)) N := by
      rw [g_X0_endOf_L61]
      simp (disch := (first | omega | exact (iv_rng _ _ _).1 | exact (iv_rng _ _ _).2)) only [pi_lit, pi_nat, pi_add, pi_sub, pi_mul, pi_neg, pi_le, pi_lt, pi_eq, pi_cn, pi_ci, pi_g, am_b_some, iv_s, iv_ls, lg_s, lg_ls, if_true, if_false, Int.reduceEq, Int.reduceLT, Int.reduceLE, Int.reduceToNat, s_maskAt1, s_bit, Int.toNat_natCast]
      rw [if_neg (by omega)]
      by_cases h1 : pb (am_lg N 164 k) g.toNat = true
      · rw [if_pos h1]
        exact if_neg (cmpz_f hg.1 hg.2 h1)
      · rw [if_neg h1]
        exact if_pos (cmpz_t hg.1 hg.2 (by simpa using h1))
    dsimp only
    rw [hstep]
    by_cases h1 : pb (am_lg N 164 k) g.toNat = true
    · right
      rw [if_pos h1]
      exact ⟨_, rfl, Or.inl ⟨k, rfl, hFk, by omega, (hre k (by omega)).mp h1, hno⟩⟩
    · left
      rw [if_neg h1]
      refine ⟨(pI (k + 1 : Nat), N), rfl, by omega, rfl, fun e e1 e2 => ?_⟩
      by_cases h2 : e = k
      · subst h2; exact fun h3 => h1 ((hre _ (by omega)).mpr h3)
      · exact hno e e1 (by omega)) (by
    rintro m s ⟨hFk, rfl, hno⟩
    refine ⟨((96, pI (31 : Nat)), N), ?_, Or.inr ⟨⟨_, rfl⟩, fun e e1 e2 => hno e e1 (by omega)⟩⟩
    dsimp only
    rw [g_X0_endOf_L61]
    simp (disch := (first | omega | exact (iv_rng _ _ _).1 | exact (iv_rng _ _ _).2)) only [pi_lit, pi_nat, pi_add, pi_sub, pi_mul, pi_neg, pi_le, pi_lt, pi_eq, pi_cn, pi_ci, pi_g, am_b_some, iv_s, iv_ls, lg_s, lg_ls, if_true, if_false, Int.reduceEq, Int.reduceLT, Int.reduceLE, Int.reduceToNat]
    rw [if_pos (by omega)])
  have hstart : g_X0_endOf 158 (pI g) (pI fin) M = (if y.1.1 = 87 then some (y.1.2, y.2) else some (-1, y.2)) := by
    unfold g_X0_endOf g_X2_lastPlace
    dsimp only at g3
    simp (disch := (first | omega | exact (iv_rng _ _ _).1 | exact (iv_rng _ _ _).2)) only [pi_lit, pi_nat, pi_add, pi_sub, pi_mul, pi_neg, pi_le, pi_lt, pi_eq, pi_cn, pi_ci, pi_g, am_b_some, iv_s, iv_ls, lg_s, lg_ls, if_true, if_false, Int.reduceEq, Int.reduceLT, Int.reduceLE, Int.reduceToNat, ht, s_at1, Int.toNat_natCast, hl, g1, g2, g3]
    rfl
  rcases hy with ⟨e, rfl, e1, e2, e3, e4⟩ | ⟨⟨v, rfl⟩, hno⟩
  · refine ⟨e, N, hstart, f1, t1, Or.inl ⟨e, rfl, by omega, e2, (hok e (by omega) e2).mpr ⟨e1, e3⟩, fun e' q1 q2 q3 => ?_⟩⟩
    have := (hok e' q1 (by omega)).mp q3
    exact e4 e' this.1 q2 this.2
  · refine ⟨-1, N, hstart.trans (if_neg (show ¬ (96 : Nat) = 87 by decide)), f1, t1, Or.inr ⟨rfl, fun e' q1 q2 q3 => ?_⟩⟩
    have := (hok e' q1 q2).mp q3
    exact hno e' this.1 q2 this.2
end PF
