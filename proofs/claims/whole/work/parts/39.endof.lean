/-! where a route of the class would end -/
section PG
theorem s_isClosed {c : Int} {t : Nat} {M : am_M} (hc : 0 ≤ c ∧ c < 40) (ht : t ≤ 30) : g_X0_isClosed (pI c) (pI t) M = some (pI (b01 (pb (am_lg M 162 t) c.toNat = true)), M) := by
  unfold g_X0_isClosed
  rw [s_maskAt1 162 31 M (by omega) (by omega) (by omega), am_b_some, s_bit M (by omega) (by omega), am_b_some, Int.toNat_natCast]
  by_cases h : pb (am_lg M 162 t) c.toNat = true
  · rw [b01_t h]
    exact if_neg (cmpz_f hc.1 hc.2 h)
  · rw [b01_f h]
    exact if_pos (cmpz_t hc.1 hc.2 (by simpa using h))
theorem s_endOf19 {σ : Nat → Int} {r wo g fin : Int} {f : Nat} {M : am_M} (h : FM σ r wo M) (hg : 0 ≤ g ∧ g < 40) (hf : f ≤ 30) (hfin : 0 ≤ fin ∧ fin ≤ 1) : ∃ F : Nat, g_X0_endOf_L19 (pI g) (pI fin) am_fu (pI f) (pI 0) M = some (pI F, M) ∧ f ≤ F ∧ F ≤ 31 ∧ ∀ e, f ≤ e → e ≤ 30 → (F ≤ e ↔ (fin ≠ 0 → ∀ k, e ≤ k → k ≤ 30 → fre σ r wo g k)) := by
  by_cases h0 : fin = 0
  · refine ⟨f, ?_, Nat.le_refl _, by omega, fun e he1 he2 => ⟨fun _ x => absurd h0 x, fun _ => he1⟩⟩
    subst h0
    rw [show am_fu = 99999 + 1 from rfl, g_X0_endOf_L19]
    exact if_pos rfl
  · obtain ⟨y, h3, F, h4, h5⟩ := lo_for (fun m (s : Int32 × Int32 × am_M) => g_X0_endOf_L19 (pI g) (pI fin) m s.1 s.2.1 s.2.2) (fun k s => ∃ F : Nat, s = (pI F, pI (k : Nat), M) ∧ f ≤ F ∧ F ≤ max f k ∧ ∀ e, f ≤ e → e ≤ 30 → (F ≤ e ↔ ∀ q, e ≤ q → q < k → fre σ r wo g q)) (fun y => ∃ F : Nat, y = (pI F, M) ∧ f ≤ F ∧ F ≤ 31 ∧ ∀ e, f ≤ e → e ≤ 30 → (F ≤ e ↔ ∀ q, e ≤ q → q < 31 → fre σ r wo g q)) 0 31 (pI f, pI 0, M) ⟨f, rfl, Nat.le_refl _, by omega, fun e h1 h2 => ⟨fun _ q h3 h4 => by omega, fun _ => h1⟩⟩ (by omega) (by unfold am_fu; omega) (by
      rintro m k s hk ⟨F, rfl, b1, b2, b3⟩
      left
      have hcl := s_isClosed (c := g) (t := k) (M := M) hg (by omega)
      have hfm := h.1 k g.toNat (by omega) (by omega)
      rw [show ((g.toNat : Nat) : Int) = g by omega] at hfm
      by_cases h1 : pb (am_lg M 162 k) g.toNat = true
      · refine ⟨(pI (max F (k + 1) : Nat), pI (k + 1 : Nat), M), ?_, max F (k + 1), rfl, by omega, by omega, fun e e1 e2 => ?_⟩
        · dsimp only
          rw [g_X0_endOf_L19]
          rw [b01_t h1] at hcl
          simp (disch := (first | omega | exact (iv_rng _ _ _).1 | exact (iv_rng _ _ _).2)) only [pi_lit, pi_nat, pi_add, pi_sub, pi_mul, pi_neg, pi_le, pi_lt, pi_eq, pi_cn, pi_ci, pi_g, am_b_some, iv_s, iv_ls, lg_s, lg_ls, if_true, if_false, Int.reduceEq, Int.reduceLT, Int.reduceLE, Int.reduceToNat, hcl]
          rw [if_neg h0, if_neg (by omega)]
          by_cases h2 : (F : Int) < k + 1
          · rw [if_pos h2, show max F (k + 1) = k + 1 by omega]; rfl
          · rw [if_neg h2, show max F (k + 1) = F by omega]; rfl
        · constructor
          · intro h2 q q1 q2
            omega
          · intro h2
            by_cases h6 : e ≤ k
            · exact absurd (h2 k h6 (by omega)) (hfm.mp h1)
            · have := (b3 e e1 e2).mpr (fun q q1 q2 => by omega)
              omega
      · refine ⟨(pI F, pI (k + 1 : Nat), M), ?_, F, rfl, b1, by omega, fun e e1 e2 => (b3 e e1 e2).trans ?_⟩
        · dsimp only
          rw [g_X0_endOf_L19]
          rw [b01_f h1] at hcl
          simp (disch := (first | omega | exact (iv_rng _ _ _).1 | exact (iv_rng _ _ _).2)) only [pi_lit, pi_nat, pi_add, pi_sub, pi_mul, pi_neg, pi_le, pi_lt, pi_eq, pi_cn, pi_ci, pi_g, am_b_some, iv_s, iv_ls, lg_s, lg_ls, if_true, if_false, Int.reduceEq, Int.reduceLT, Int.reduceLE, Int.reduceToNat, hcl]
          rw [if_neg h0, if_neg (by omega)]
          rfl
        · have h8 : fre σ r wo g k := by
            by_cases h9 : fre σ r wo g k
            · exact h9
            · exact absurd (hfm.mpr h9) h1
          constructor
          · intro h2 q q1 q2
            by_cases h7 : q = k
            · subst h7; exact h8
            · exact h2 q q1 (by omega)
          · intro h2 q q1 q2
            exact h2 q q1 (by omega)) (by
      rintro m s ⟨F, rfl, b1, b2, b3⟩
      refine ⟨(pI F, M), ?_, F, rfl, b1, by omega, b3⟩
      dsimp only
      rw [g_X0_endOf_L19]
      simp (disch := (first | omega | exact (iv_rng _ _ _).1 | exact (iv_rng _ _ _).2)) only [pi_lit, pi_nat, pi_add, pi_sub, pi_mul, pi_neg, pi_le, pi_lt, pi_eq, pi_cn, pi_ci, pi_g, am_b_some, iv_s, iv_ls, lg_s, lg_ls, if_true, if_false, Int.reduceEq, Int.reduceLT, Int.reduceLE, Int.reduceToNat]
      rw [if_neg h0, if_pos (by omega)])
    subst h4
    exact ⟨F, h3, h5.1, h5.2.1, fun e e1 e2 => (h5.2.2 e e1 e2).trans ⟨fun x _ k k1 k2 => x k k1 (by omega), fun x q q1 q2 => x h0 q q1 (by omega)⟩⟩
end PG
