/-! plan, arrival, routeCost -/
section QO
def MRt (α : Nat → Int) (n : Nat) (M : am_M) : Prop := iv M 174 15 = n ∧ iv M 174 16 = lt α n ∧ iv M 174 17 = lco α n ∧ ∀ j : Nat, j < n → iv M 184 j = α j
/-- the model finds a route -/
theorem s_mfinal {σ : Nat → Int} {r : Nat} {wo g : Int} {M : am_M} (hs : sg M = σ) (hO : OK σ) (hw : iv M 174 11 = wo) (hr : (r : Int) < σ 6) (hg : 0 ≤ g ∧ g < 40) : ∃ N, fr [174, 180, 181, 182, 183, 184] M N ∧ (∀ k, k ≠ 15 → k ≠ 16 → k ≠ 17 → iv N 174 k = iv M 174 k) ∧ ((∃ α n, g_X10_hasRoute (pI r) (pI g) M = some (pI 1, N) ∧ rtg σ r wo 0 (ro σ r 0) g 1 α n ∧ MRt α n N) ∨ (g_X10_hasRoute (pI r) (pI g) M = some (pI 0, N) ∧ ∀ e', e' ≤ 30 → ¬ okE σ r wo 0 (ro σ r 0) g 1 e')) := by
  obtain ⟨hC, hwl, h6, h7, hkd, hRF, hTF, hNC⟩ := hO
  obtain ⟨N, f1, _, k1, h⟩ := s_hasRoute hs hw h6 (fun k hk => (hRF k hk).1) hwl ⟨by omega, hr⟩ hg
  refine ⟨N, f1, k1, ?_⟩
  rcases h with ⟨e, n, C, g1, h1, h2, h3, h4, h5⟩ | ⟨g1, h1⟩
  · have hrt : rtg σ r wo 0 (ro σ r 0) g 1 (fun k => wa σ r wo e C 0 (ro σ r 0) k) n := ⟨e, C, h1, fun k _ => rfl⟩
    obtain ⟨q1, q2, q3, q4, q5, e', C', hr', q6, q7⟩ := rtg_facts hwl (ro_cell (hRF r hr).1) hrt
    have he : e = e' := by
      obtain ⟨⟨a1, a2, a3, a4⟩, _⟩ := h1
      obtain ⟨⟨b1, b2, b3, b4⟩, _⟩ := hr'
      by_cases z1 : e < e'
      · exact absurd a3 (b4 e a1 z1)
      · by_cases z2 : e' < e
        · exact absurd b3 (a4 e' b1 z2)
        · omega
    subst he
    have hCC : C = C' := by rw [h1.2.1, hr'.2.1]
    subst hCC
    refine Or.inl ⟨_, n, g1, hrt, h2, ?_, ?_, h5⟩
    · rw [h3]; omega
    · rw [h4, q7]
  · exact Or.inr ⟨g1, h1⟩
theorem ci1 : ¬ (pI 1 = (0 : Int32)) := by decide
theorem ci0 : pI 0 = (0 : Int32) := rfl
theorem mrob_t {σ : Nat → Int} {x : Int} {M : am_M} (hs : sg M = σ) (hO : OK σ) (h : 0 ≤ x ∧ x < σ 6) : g_X10_isRobot (pI x) M = some (pI 1, M) := by
  have h6 := hO.2.2.1
  rw [s_isRobot M (by omega) (by omega) (by rw [hs]; omega) (by rw [hs]; omega), hs, if_pos (by omega)]
theorem mrob_f {σ : Nat → Int} {x : Int} {M : am_M} (hs : sg M = σ) (hO : OK σ) (h1 : -2147483648 ≤ x) (h2 : x < 2147483648) (h : ¬ (0 ≤ x ∧ x < σ 6)) : g_X10_isRobot (pI x) M = some (pI 0, M) := by
  have h6 := hO.2.2.1
  rw [s_isRobot M h1 h2 (by rw [hs]; omega) (by rw [hs]; omega), hs, if_neg (by omega)]
theorem mcell_t {y : Int} {M : am_M} (h : 0 ≤ y ∧ y < 40) : g_X10_isCell (pI y) M = some (pI 1, M) := by
  rw [s_misCell M (by omega) (by omega), if_pos (by omega)]
theorem mcell_f {y : Int} {M : am_M} (h1 : -2147483648 ≤ y) (h2 : y < 2147483648) (h : ¬ (0 ≤ y ∧ y < 40)) : g_X10_isCell (pI y) M = some (pI 0, M) := by
  rw [s_misCell M h1 h2, if_neg (by omega)]
theorem mlift_t {σ : Nat → Int} {r : Nat} {M : am_M} (hs : sg M = σ) (hr : r < 5) (h : 0 < ro σ r 3) : g_X10_isInLift (pI r) M = some (pI 1, M) := by
  rw [s_misInLift M (by omega) (by omega), hs, if_pos h]
theorem mlift_f {σ : Nat → Int} {r : Nat} {M : am_M} (hs : sg M = σ) (hr : r < 5) (h : ¬ 0 < ro σ r 3) : g_X10_isInLift (pI r) M = some (pI 0, M) := by
  rw [s_misInLift M (by omega) (by omega), hs, if_neg h]
theorem s_rr1 {σ : Nat → Int} {x y : Int} {M : am_M} (hs : sg M = σ) (hO : OK σ) (hx1 : -2147483648 ≤ x) (hx2 : x < 2147483648) (hy1 : -2147483648 ≤ y) (hy2 : y < 2147483648) (h : ¬ ((0 ≤ x ∧ x < σ 6) ∧ (0 ≤ y ∧ y < 40))) : g_X10_routeRefusal (pI x) (pI y) M = some (pI 1, am_s M 174 0 (pI 1)) := by
  unfold g_X10_routeRefusal
  by_cases c1 : 0 ≤ x ∧ x < σ 6
  · rw [mrob_t hs hO c1, am_b_some, if_neg ci1, mcell_f hy1 hy2 (fun q => h ⟨c1, q⟩), am_b_some, if_pos ci0]
    rfl
  · rw [mrob_f hs hO hx1 hx2 c1, am_b_some, if_pos ci0]
    rfl
theorem s_rr2 {σ : Nat → Int} {r : Nat} {y : Int} {M : am_M} (hs : sg M = σ) (hO : OK σ) (hr : (r : Int) < σ 6) (hy : 0 ≤ y ∧ y < 40) (h : 0 < ro σ r 3) : g_X10_routeRefusal (pI r) (pI y) M = some (pI 2, am_s M 174 0 (pI 2)) := by
  have h6 := hO.2.2.1
  unfold g_X10_routeRefusal
  rw [mrob_t hs hO ⟨by omega, hr⟩, am_b_some, if_neg ci1, mcell_t hy, am_b_some, if_neg ci1, mlift_t hs (by omega) h, am_b_some, if_neg ci1]
  rfl
theorem s_rr3 {σ : Nat → Int} {r : Nat} {y : Int} {M : am_M} (hs : sg M = σ) (hO : OK σ) (hw : iv M 174 11 = -1) (hr : (r : Int) < σ 6) (hy : 0 ≤ y ∧ y < 40) (h : ro σ r 3 = 0) : ∃ N, fr [174, 180, 181, 182, 183, 184] M N ∧ (∀ k, k ≠ 0 → k ≠ 15 → k ≠ 16 → k ≠ 17 → iv N 174 k = iv M 174 k) ∧ ((∃ α n, g_X10_routeRefusal (pI r) (pI y) M = some (pI 0, N) ∧ iv N 174 0 = 0 ∧ rtg σ r (-1) 0 (ro σ r 0) y 1 α n ∧ MRt α n N) ∨ (g_X10_routeRefusal (pI r) (pI y) M = some (pI 3, N) ∧ iv N 174 0 = 3 ∧ ∀ e', e' ≤ 30 → ¬ okE σ r (-1) 0 (ro σ r 0) y 1 e')) := by
  have h6 := hO.2.2.1
  obtain ⟨N, f1, k1, hh⟩ := s_mfinal hs hO hw hr hy
  have hstart : g_X10_routeRefusal (pI r) (pI y) M = am_b (g_X10_hasRoute (pI r) (pI y) M) (fun v12 M11 => (if v12 = (0 : Int32) then (some ((am_g (am_s M11 174 0 (3 : Int32)) 174 0), (am_s M11 174 0 (3 : Int32)))) else (some ((am_g (am_s M11 174 0 (0 : Int32)) 174 0), (am_s M11 174 0 (0 : Int32)))))) := by
    unfold g_X10_routeRefusal
    rw [mrob_t hs hO ⟨by omega, hr⟩, am_b_some, if_neg ci1, mcell_t hy, am_b_some, if_neg ci1, mlift_f hs (by omega) (by omega), am_b_some, if_pos ci0]
  rw [hstart]
  rcases hh with ⟨α, n, g1, q1, q2, q3, q4, q5⟩ | ⟨g1, q1⟩
  · refine ⟨am_s N 174 0 (pI 0), fr_trans f1 (fr_s (by simp)), fun k h0 h1 h2 h3 => ?_, Or.inl ⟨α, n, ?_, ?_, q1, ?_, ?_, ?_, fun j hj => ?_⟩⟩
    · simp (disch := (first | omega | exact (iv_rng _ _ _).1 | exact (iv_rng _ _ _).2)) only [pi_lit, pi_nat, pi_add, pi_sub, pi_mul, pi_neg, pi_le, pi_lt, pi_eq, pi_cn, pi_ci, pi_g, am_b_some, iv_s, iv_ls, lg_s, lg_ls]
      rw [if_neg (by omega), k1 k h1 h2 h3]
    · rw [g1, am_b_some]
      rfl
    · simp (disch := (first | omega | exact (iv_rng _ _ _).1 | exact (iv_rng _ _ _).2)) only [pi_lit, pi_nat, pi_add, pi_sub, pi_mul, pi_neg, pi_le, pi_lt, pi_eq, pi_cn, pi_ci, pi_g, am_b_some, iv_s, iv_ls, lg_s, lg_ls]
      rw [if_pos (by simp)]
    · simp (disch := (first | omega | exact (iv_rng _ _ _).1 | exact (iv_rng _ _ _).2)) only [pi_lit, pi_nat, pi_add, pi_sub, pi_mul, pi_neg, pi_le, pi_lt, pi_eq, pi_cn, pi_ci, pi_g, am_b_some, iv_s, iv_ls, lg_s, lg_ls]
      rw [if_neg (by omega), q2]
    · simp (disch := (first | omega | exact (iv_rng _ _ _).1 | exact (iv_rng _ _ _).2)) only [pi_lit, pi_nat, pi_add, pi_sub, pi_mul, pi_neg, pi_le, pi_lt, pi_eq, pi_cn, pi_ci, pi_g, am_b_some, iv_s, iv_ls, lg_s, lg_ls]
      rw [if_neg (by omega), q3]
    · simp (disch := (first | omega | exact (iv_rng _ _ _).1 | exact (iv_rng _ _ _).2)) only [pi_lit, pi_nat, pi_add, pi_sub, pi_mul, pi_neg, pi_le, pi_lt, pi_eq, pi_cn, pi_ci, pi_g, am_b_some, iv_s, iv_ls, lg_s, lg_ls]
      rw [if_neg (by omega), q4]
    · simp (disch := (first | omega | exact (iv_rng _ _ _).1 | exact (iv_rng _ _ _).2)) only [pi_lit, pi_nat, pi_add, pi_sub, pi_mul, pi_neg, pi_le, pi_lt, pi_eq, pi_cn, pi_ci, pi_g, am_b_some, iv_s, iv_ls, lg_s, lg_ls]
      rw [if_neg (by omega), q5 j hj]
  · refine ⟨am_s N 174 0 (pI 3), fr_trans f1 (fr_s (by simp)), fun k h0 h1 h2 h3 => ?_, Or.inr ⟨?_, ?_, q1⟩⟩
    · simp (disch := (first | omega | exact (iv_rng _ _ _).1 | exact (iv_rng _ _ _).2)) only [pi_lit, pi_nat, pi_add, pi_sub, pi_mul, pi_neg, pi_le, pi_lt, pi_eq, pi_cn, pi_ci, pi_g, am_b_some, iv_s, iv_ls, lg_s, lg_ls]
      rw [if_neg (by omega), k1 k h1 h2 h3]
    · rw [g1, am_b_some]
      rfl
    · simp (disch := (first | omega | exact (iv_rng _ _ _).1 | exact (iv_rng _ _ _).2)) only [pi_lit, pi_nat, pi_add, pi_sub, pi_mul, pi_neg, pi_le, pi_lt, pi_eq, pi_cn, pi_ci, pi_g, am_b_some, iv_s, iv_ls, lg_s, lg_ls]
      rw [if_pos (by simp)]
theorem MRt_congr {α β : Nat → Int} {n : Nat} {M : am_M} (e : ∀ k, k < n → α k = β k) (h : MRt α n M) : MRt β n M := by
  obtain ⟨h1, h2, h3, h4⟩ := h
  exact ⟨h1, by rw [h2, lt_congr e], by rw [h3, lco_congr e], fun j hj => by rw [h4 j hj, e j hj]⟩
theorem pi_i64 (x : Int32) : x.toInt64 = x.toInt64 := rfl
/-- what a case of the law has to give -/
def CS (rc : Option (Int32 × am_M)) (rm : am_M → Option (Int32 × am_M)) : Prop := ∃ (k v : Int32) (P Q : am_M), rc = some (k, P) ∧ rm P = some (v, Q) ∧ am_g Q 174 0 = k ∧ (k = 0 → am_lg Q 186 0 = v.toInt64) ∧ INV Q
end QO
