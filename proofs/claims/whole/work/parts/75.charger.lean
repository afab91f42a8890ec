/-! plans that can be paid; planToCharger -/
section RJ
/-- a plan to a cell that can be paid, with its ticks -/
def pl (σ : Nat → Int) (r : Nat) (g : Int) (e : Nat) : Prop := ∃ α n, rtg σ r (-1) 0 (ro σ r 0) g 1 α n ∧ lt α n = e ∧ lco α n ≤ ro σ r 1
theorem pl_uniq {σ : Nat → Int} {r : Nat} {g : Int} {e e' : Nat} (h : pl σ r g e) (h2 : pl σ r g e') : e = e' := by
  obtain ⟨α, n, h1, rfl, _⟩ := h
  obtain ⟨β, m, h3, rfl, _⟩ := h2
  obtain ⟨rfl, h4⟩ := rtg_uniq h1 h3
  exact lt_congr h4
theorem pl_not {σ : Nat → Int} {r : Nat} {g : Int} (h : ∀ e', e' ≤ 30 → ¬ okE σ r (-1) 0 (ro σ r 0) g 1 e') (e : Nat) : ¬ pl σ r g e := fun ⟨α, n, h1, _, _⟩ => by
  obtain ⟨e', _, h2, h3⟩ := rtg_ok h1
  exact h e' h2 h3
theorem pl_dear {σ : Nat → Int} {r : Nat} {g : Int} {α : Nat → Int} {n : Nat} (h : rtg σ r (-1) 0 (ro σ r 0) g 1 α n) (hd : ro σ r 1 < lco α n) (e : Nat) : ¬ pl σ r g e := fun ⟨β, m, h1, _, h2⟩ => by
  obtain ⟨rfl, h4⟩ := rtg_uniq h h1
  rw [← lco_congr h4] at h2
  omega
theorem s_affordable {σ : Nat → Int} {r n : Nat} {c : Int} {α : Nat → Int} {O : am_M} (hW : WD σ 1 O) (hO : OK σ) (hr : (r : Int) < σ 6) (hR : RW σ 158 c α n O) (hl : 0 ≤ lco α n ∧ lco α n ≤ 1000) : g_X3_isAffordable (pI r) O = some (pI (if ro σ r 1 < lco α n then 0 else 1), O) := by
  have h6 := hO.2.2.1
  have hbat : iv O (16 + 5 * r) 2 = ro σ r 1 := by
    have := (hW.2.2.2.1 r hr).2.1
    rw [show 1 + 15 + 5 * r = 16 + 5 * r by omega] at this
    exact this
  have hbr := iv_rng O (16 + 5 * r) 2
  rw [hbat] at hbr
  unfold g_X3_isAffordable
  have c1 : am_g O (16 + 5 * r) 2 = pI (ro σ r 1) := by rw [pi_g, hbat]
  have c2 : am_g O 158 4 = pI (lco α n) := by rw [pi_g, hR.2.1]
  rw [s_robotOf O (by omega), am_b_some, show 1 + 15 + 5 * r = 16 + 5 * r by omega, c1, c2]
  simp (disch := (first | omega | exact (iv_rng _ _ _).1 | exact (iv_rng _ _ _).2)) only [pi_lit, pi_nat, pi_add, pi_sub, pi_mul, pi_neg, pi_le, pi_lt, pi_eq, pi_cn, pi_ci, pi_g, am_b_some, iv_s, iv_ls, lg_s, lg_ls, if_true, if_false, Int.reduceEq, Int.reduceLT, Int.reduceLE, Int.reduceToNat]
  split <;> rfl
theorem s_isPlannable {σ : Nat → Int} {r : Nat} {g : Int} {M : am_M} (hW : WD σ 1 M) (hO : OK σ) (hr : (r : Int) < σ 6) (h3 : ro σ r 3 = 0) (hg : 0 ≤ g ∧ g < 40) : ∃ O, fr [158, 159, 160, 162, 163, 164, 165] M O ∧ iv O 158 2 = σ 0 ∧ ((∃ α n, g_X3_isPlannable (pI r) (pI g) M = some (pI 1, O) ∧ rtg σ r (-1) 0 (ro σ r 0) g 1 α n ∧ lco α n ≤ ro σ r 1 ∧ RW σ 158 (ro σ r 0) α n O) ∨ (g_X3_isPlannable (pI r) (pI g) M = some (pI 0, O) ∧ ∀ e, ¬ pl σ r g e)) := by
  have h6 := hO.2.2.1
  have h7 := hO.2.2.2.1
  obtain ⟨O, f1, e2, h⟩ := s_findFinal hW hO hr h3 hg
  have hWO : WD σ 1 O := WD_fr hW h6.2 h7.2 f1 (by intro z z1 z2 z3; simp at z3; omega)
  refine ⟨O, f1, e2, ?_⟩
  rcases h with ⟨α, n, g1, q1, q2⟩ | ⟨g1, q1⟩
  · have hfac := rtg_facts hO.2.1 (ro_cell (hO.2.2.2.2.2.1 r hr).1) q1
    have ga := s_affordable hWO hO hr q2 (by omega)
    by_cases hd : ro σ r 1 < lco α n
    · rw [if_pos hd] at ga
      refine Or.inr ⟨?_, pl_dear q1 hd⟩
      unfold g_X3_isPlannable
      rw [g1, am_b_some, if_neg ci1, ga, am_b_some, if_pos ci0]
      rfl
    · rw [if_neg hd] at ga
      refine Or.inl ⟨α, n, ?_, q1, by omega, q2⟩
      unfold g_X3_isPlannable
      rw [g1, am_b_some, if_neg ci1, ga, am_b_some, if_neg ci1]
      rfl
  · refine Or.inr ⟨?_, pl_not q1⟩
    unfold g_X3_isPlannable
    rw [g1, am_b_some, if_pos ci0]
    rfl
theorem s_canPlan {σ : Nat → Int} {r : Nat} {g : Int} {P : am_M} (hs : sg P = σ) (hO : OK σ) (h11 : iv P 174 11 = -1) (hr : (r : Int) < σ 6) (h3 : ro σ r 3 = 0) (hg : 0 ≤ g ∧ g < 40) : ∃ N, fr [174, 180, 181, 182, 183, 184] P N ∧ (∀ k, k ≠ 15 → k ≠ 16 → k ≠ 17 → iv N 174 k = iv P 174 k) ∧ ((∃ α n, g_X10_canPlan (pI r) (pI g) P = some (pI 1, N) ∧ rtg σ r (-1) 0 (ro σ r 0) g 1 α n ∧ lco α n ≤ ro σ r 1 ∧ MRt α n N) ∨ (g_X10_canPlan (pI r) (pI g) P = some (pI 0, N) ∧ ∀ e, ¬ pl σ r g e)) := by
  have h6 := hO.2.2.1
  obtain ⟨N, f1, k1, h⟩ := s_mfinal (r := r) (g := g) hs hO h11 hr hg
  have hsN : sg N = σ := (sg_fr f1 (by decide)).trans hs
  refine ⟨N, f1, k1, ?_⟩
  unfold g_X10_canPlan
  rw [mlift_f hs (by omega) (by omega), am_b_some, if_pos ci0]
  have gb : g_X10_of (pI r) (1 : Int32) N = some (pI (ro σ r 1), N) := mof hsN (r := r) (w := 1) (by omega) (by omega)
  have hbr := sg_rng N (88 + 42 * r + 1)
  rw [hsN, ← ro_nat σ r 1] at hbr
  have hbr2 : -2147483648 ≤ ro σ r 1 ∧ ro σ r 1 < 2147483648 := hbr
  rcases h with ⟨α, n, g1, q1, q2⟩ | ⟨g1, q1⟩
  · have hfac := rtg_facts hO.2.1 (ro_cell (hO.2.2.2.2.2.1 r hr).1) q1
    have c2 : am_g N 174 17 = pI (lco α n) := by rw [pi_g, q2.2.2.1]
    rw [g1, am_b_some, if_neg ci1, gb, am_b_some, c2]
    by_cases hd : ro σ r 1 < lco α n
    · rw [if_pos (show pI (ro σ r 1) < pI (lco α n) by rw [pi_lt hbr2.1 hbr2.2 (by omega) (by omega)]; exact hd)]
      exact Or.inr ⟨rfl, pl_dear q1 hd⟩
    · rw [if_neg (show ¬ (pI (ro σ r 1) < pI (lco α n)) by rw [pi_lt hbr2.1 hbr2.2 (by omega) (by omega)]; exact hd)]
      exact Or.inl ⟨α, n, rfl, q1, by omega, q2⟩
  · rw [g1, am_b_some, if_pos ci0]
    exact Or.inr ⟨rfl, pl_not q1⟩
/-- a found plan is adopted on both sides -/
theorem plan_done {O : am_M} (hIO : INV O) {r n : Nat} {g : Int} {α : Nat → Int} (hr : (r : Int) < sg O 6) (h3 : ro (sg O) r 3 = 0) (hg : 0 ≤ g ∧ g < 40) (q1 : rtg (sg O) r (-1) 0 (ro (sg O) r 0) g 1 α n) (q2 : RW (sg O) 158 (ro (sg O) r 0) α n O) (e2 : iv O 158 2 = sg O 0) (hb : lco α n ≤ ro (sg O) r 1) : ∃ A, g_X3_adopt (pI r) (-1 : Int32) O = some ((), A) ∧ am_g A 158 3 = pI (lt α n : Nat) ∧ sg A = sg O ∧ fr KX O A ∧ (∀ k, iv A 174 k = iv O 174 k) ∧ ∀ P, fr [174, 180, 181, 182, 183, 184, 186] A P → (∀ k, k = 4 ∨ k = 7 ∨ k = 8 ∨ k = 11 → iv P 174 k = iv A 174 k) → ∃ Q, g_X10_plan (pI r) (pI g) P = some (pI (lt α n : Nat), Q) ∧ iv Q 174 0 = 0 ∧ am_lg Q 186 0 = am_lg P 186 0 ∧ INV Q := by
  obtain ⟨σ, eσ⟩ : ∃ σ, σ = sg O := ⟨_, rfl⟩
  rw [← eσ] at hr h3 q1 q2 e2 hb ⊢
  have hO : OK σ := by rw [eσ]; exact hIO.1
  have hWO : WD σ 1 O := by rw [eσ]; exact hIO.2.1
  have h6 := hO.2.2.1
  have hRF := hO.2.2.2.2.2.1 r hr
  have hfac := rtg_facts hO.2.1 (ro_cell hRF.1) q1
  have hln := lt_ge α n
  have h4b : (ro σ r 4).toNat < 12 := by have := hRF.2.2.2.1; have := hO.2.2.2.1; omega
  have hbr : -2147483648 ≤ ro σ r 1 ∧ ro σ r 1 < 2147483648 := by
    have := sg_rng O (88 + 42 * r + 1)
    rw [← eσ, ← ro_nat σ r 1] at this
    exact this
  obtain ⟨A, g3, f3, hWA⟩ := s_adopt (s := -1) hWO hO hr h3 (by omega) (by omega) q2 e2 (by omega)
  rw [folS_self (by omega)] at hWA
  have eA : sg A = σ := (sg_fr f3 (by simp; omega)).trans eσ.symm
  refine ⟨A, g3, by rw [pi_g, fr_i f3 (by simp; omega), q2.1], eA, fr_mono f3 (fun z hz => mem_KX.mpr (by simp at hz; omega)), fun k => fr_i f3 (by simp; omega) k, fun P fAP hkP => ?_⟩
  have ePs : sg P = σ := (sg_fr fAP (by decide)).trans eA
  have h11P : iv P 174 11 = -1 := by rw [hkP 11 (by omega), fr_i f3 (by simp; omega)]; exact hIO.2.2.1
  obtain ⟨N, f2, k2, hN⟩ := s_rr3 (M := P) ePs hO h11P (y := g) (r := r) hr hg h3
  rcases hN with ⟨β, m, g2, t0, q3, q4⟩ | ⟨g2, t0, q3⟩
  · obtain ⟨rfl, q5⟩ := rtg_uniq q1 q3
    have q6 := MRt_congr (fun k hk => (q5 k hk).symm) q4
    have eN : sg N = σ := (sg_fr f2 (by decide)).trans ePs
    obtain ⟨Q, g4, f4, eQ⟩ := s_follows (r := r) (α := α) (n := n) eN (by omega) (by have := hRF.2.2.2.1; have := hO.2.2.2.1; omega) (by omega) q6.1 q6.2.2.2
    have hOQ : OK (sg Q) := by rw [eQ]; exact OK_fol hO hr h3 (by omega) (rtg_LG hO.2.1 (ro_cell hRF.1) q1)
    have fAQ : fr [174, 175, 180, 181, 182, 183, 184, 186] A Q := fr_trans (fr_mono fAP (by simp)) (fr_trans (fr_mono f2 (by simp)) (fr_mono f4 (by simp)))
    have hWQ : WD (sg Q) 1 Q := by
      rw [eQ]
      refine WD_fr hWA ?_ ?_ fAQ (by intro z z1 z2 z3; simp at z3; omega)
      · rw [folF_low (by omega)]; omega
      · rw [folF_low (by omega)]; exact hO.2.2.2.1.2
    have fMQ : fr KX O Q := fr_trans (fr_mono f3 (fun z hz => mem_KX.mpr (by simp at hz; omega))) (fr_mono fAQ (by decide))
    have hk : ∀ k, k = 4 ∨ k = 7 ∨ k = 8 ∨ k = 11 → iv Q 174 k = iv O 174 k := fun k hk => by
      rw [fr_i f4 (by simp), k2 k (by omega) (by omega) (by omega) (by omega), hkP k hk]
      exact fr_i f3 (by simp; omega) k
    refine ⟨Q, ?_, by rw [fr_i f4 (by simp)]; exact t0, by rw [fr_l f4 (by simp), fr_l f2 (by decide)], INV_set hIO hOQ hWQ fMQ (hk 4 (by omega)) (hk 7 (by omega)) (hk 8 (by omega)) (hk 11 (by omega))⟩
    unfold g_X10_plan
    have c1 : g_X10_of (pI r) (1 : Int32) N = some (pI (ro σ r 1), N) := mof eN (r := r) (w := 1) (by omega) (by omega)
    have c2 : am_g N 174 17 = pI (lco α n) := by rw [pi_g, q6.2.2.1]
    have c4 : am_g Q 174 16 = pI (lt α n : Nat) := by rw [pi_g, fr_i f4 (by simp), q6.2.1]
    rw [g2, am_b_some, if_pos (by decide), c1, am_b_some, c2, if_pos (show pI (lco α n) ≤ pI (ro σ r 1) by rw [pi_le (by omega) (by omega) (by omega) (by omega)]; omega), g4, am_b_some, c4]
  · obtain ⟨e, e1, e3, e4⟩ := rtg_ok q1
    exact absurd e4 (q3 e e3)
/-- the nearest charger among the first q cells -/
def NC (σ : Nat → Int) (r : Nat) (q : Nat) (b : Int) (t : Nat) : Prop := (b = -1 ∧ ∀ c : Nat, c < q → σ (8 + c) = 2 → ∀ e, ¬ pl σ r c e) ∨ ∃ c0 : Nat, b = c0 ∧ c0 < q ∧ σ (8 + c0) = 2 ∧ pl σ r c0 t ∧ ∀ c : Nat, c < q → σ (8 + c) = 2 → ∀ e, pl σ r c e → t ≤ e ∧ (c < c0 → t < e)
theorem NC_uniq {σ : Nat → Int} {r q : Nat} {b b' : Int} {t t' : Nat} (h : NC σ r q b t) (h2 : NC σ r q b' t') : b = b' := by
  rcases h with ⟨rfl, h1⟩ | ⟨c0, rfl, a1, a2, a3, a4⟩
  · rcases h2 with ⟨rfl, h3⟩ | ⟨c1, rfl, b1, b2, b3, b4⟩
    · rfl
    · exact absurd b3 (h1 c1 b1 b2 t')
  · rcases h2 with ⟨rfl, h3⟩ | ⟨c1, rfl, b1, b2, b3, b4⟩
    · exact absurd a3 (h3 c0 a1 a2 t)
    · have x1 := a4 c1 b1 b2 t' b3
      have x2 := b4 c0 a1 a2 t a3
      by_cases z1 : c0 < c1
      · have := x2.2 z1; omega
      · by_cases z2 : c1 < c0
        · have := x1.2 z2; omega
        · omega
theorem NC_skip {σ : Nat → Int} {r q : Nat} {b : Int} {t : Nat} (h : NC σ r q b t) (hs : σ (8 + q) = 2 → ∀ e, pl σ r q e → b ≠ -1 ∧ t ≤ e) : NC σ r (q + 1) b t := by
  rcases h with ⟨rfl, h1⟩ | ⟨c0, rfl, a1, a2, a3, a4⟩
  · refine Or.inl ⟨rfl, fun c hc hk e he => ?_⟩
    by_cases z : c = q
    · subst z; exact (hs hk e he).1 rfl
    · exact h1 c (by omega) hk e he
  · refine Or.inr ⟨c0, rfl, by omega, a2, a3, fun c hc hk e he => ?_⟩
    by_cases z : c = q
    · subst z; exact ⟨(hs hk e he).2, fun q => by omega⟩
    · exact a4 c (by omega) hk e he
theorem NC_take {σ : Nat → Int} {r q : Nat} {b : Int} {t t' : Nat} (h : NC σ r q b t) (hk : σ (8 + q) = 2) (hp : pl σ r q t') (hb : b = -1 ∨ t' < t) : NC σ r (q + 1) q t' := by
  refine Or.inr ⟨q, rfl, by omega, hk, hp, fun c hc hkc e he => ?_⟩
  by_cases z : c = q
  · subst z
    have := pl_uniq hp he
    omega
  · rcases h with ⟨rfl, h1⟩ | ⟨c0, rfl, a1, a2, a3, a4⟩
    · exact absurd he (h1 c (by omega) hkc e)
    · have := a4 c (by omega) hkc e he
      omega
end RJ
