/-! the invariant of the law's loop -/
section QN
def KX : List Nat := (List.range 188).filter (fun a => decide ((1 ≤ a ∧ a < 53) ∨ (158 ≤ a ∧ a ≤ 165) ∨ a = 174 ∨ a = 175 ∨ 180 ≤ a))
theorem mem_KX {a : Nat} : a ∈ KX ↔ (1 ≤ a ∧ a < 53) ∨ (158 ≤ a ∧ a ≤ 165) ∨ a = 174 ∨ a = 175 ∨ (180 ≤ a ∧ a < 188) := by
  unfold KX
  rw [List.mem_filter, List.mem_range, decide_eq_true_eq]
  omega
def SVd (M : am_M) : Prop := (iv M 0 6 = 0 ∧ iv M 174 4 = 0) ∨ (iv M 0 6 = 1 ∧ iv M 174 4 = 1 ∧ OK (fun k => iv M 176 k) ∧ WD (fun k => iv M 176 k) 53 M)
def ISh (M : am_M) : Prop := ∀ q : Nat, q < 6 → (iv M 167 q = 0 ∧ iv M 178 (4 * q) = -1) ∨ (iv M 167 q = 1 ∧ iv M 178 (4 * q) ≠ -1 ∧ ∀ k : Nat, k < 4 → iv M 168 (4 * q + k) = iv M 178 (4 * q + k))
def ITx (M : am_M) : Prop := iv M 169 0 = iv M 174 7 ∧ (0 ≤ iv M 174 7 ∧ iv M 174 7 ≤ 40) ∧ ∀ k : Nat, k < iv M 174 7 → iv M 173 k = iv M 179 k ∧ 32 ≤ iv M 179 k ∧ iv M 179 k ≤ 126
def IEr (M : am_M) : Prop := iv M 0 7 = iv M 174 8 ∧ -1 ≤ iv M 174 8
def IR (M : am_M) : Prop := iv M 174 11 = -1 ∧ SVd M ∧ ISh M ∧ ITx M ∧ IEr M
def INV (M : am_M) : Prop := OK (sg M) ∧ WD (sg M) 1 M ∧ IR M
theorem SVd_fr {M N : am_M} (h : SVd M) {X : List Nat} (hf : fr X M N) (h0 : 0 ∉ X) (h1 : 176 ∉ X) (hw : ∀ a, 53 ≤ a → a < 105 → a ∉ X) (h4 : iv N 174 4 = iv M 174 4) : SVd N := by
  rcases h with ⟨a1, a2⟩ | ⟨a1, a2, a3, a4⟩
  · exact Or.inl ⟨by rw [fr_i hf h0]; exact a1, by rw [h4]; exact a2⟩
  · have e : (fun k => iv N 176 k) = fun k => iv M 176 k := funext fun k => fr_i hf h1 k
    refine Or.inr ⟨by rw [fr_i hf h0]; exact a1, by rw [h4]; exact a2, by rw [e]; exact a3, ?_⟩
    rw [e]
    exact WD_fr a4 a3.2.2.1.2 a3.2.2.2.1.2 hf (fun a b1 b2 => hw a b1 (by omega))
theorem IR_keep {M N : am_M} (h : IR M) (hf : fr KX M N) (h4 : iv N 174 4 = iv M 174 4) (h7 : iv N 174 7 = iv M 174 7) (h8 : iv N 174 8 = iv M 174 8) (h11 : iv N 174 11 = iv M 174 11) : IR N := by
  obtain ⟨a1, a2, a3, a4, a5⟩ := h
  have hn : ∀ a, ¬ ((1 ≤ a ∧ a < 53) ∨ (158 ≤ a ∧ a ≤ 165) ∨ a = 174 ∨ a = 175 ∨ (180 ≤ a ∧ a < 188)) → a ∉ KX := fun a ha h => ha (mem_KX.mp h)
  refine ⟨by rw [h11]; exact a1, SVd_fr a2 hf (hn _ (by omega)) (hn _ (by omega)) (fun a b1 b2 => hn _ (by omega)) h4, fun q hq => ?_, ?_, ?_⟩
  · rw [fr_i hf (hn 167 (by omega)), fr_i hf (hn 178 (by omega))]
    rcases a3 q hq with b | ⟨b1, b2, b3⟩
    · exact Or.inl b
    · exact Or.inr ⟨b1, b2, fun k hk => by rw [fr_i hf (hn 168 (by omega)), fr_i hf (hn 178 (by omega))]; exact b3 k hk⟩
  · unfold ITx
    rw [h7, fr_i hf (hn 169 (by omega))]
    exact ⟨a4.1, a4.2.1, fun k hk => by rw [fr_i hf (hn 173 (by omega)), fr_i hf (hn 179 (by omega))]; exact a4.2.2 k hk⟩
  · unfold IEr
    rw [h8, fr_i hf (hn 0 (by omega))]
    exact a5
theorem lg_cmp_self (x : Int64) : lg_cmp x x = 0 := by
  unfold lg_cmp
  rw [if_neg (Int64.lt_irrefl), if_pos rfl]
theorem s_demandRobot {x : Int} {M : am_M} (h1 : -2147483648 ≤ x) (h2 : x < 2147483648) : g_X9_demandRobot (pI x) M = some (if 0 ≤ x ∧ x < iv M 1 2 then .inl () else .inr 1, M) := by
  unfold g_X9_demandRobot
  simp (disch := (first | omega | exact (iv_rng _ _ _).1 | exact (iv_rng _ _ _).2)) only [pi_lit, pi_nat, pi_add, pi_sub, pi_mul, pi_neg, pi_le, pi_lt, pi_eq, pi_cn, pi_ci, pi_g, am_b_some, iv_s, iv_ls, lg_s, lg_ls, if_true, if_false, Int.reduceEq, Int.reduceLT, Int.reduceLE, Int.reduceToNat]
  by_cases c1 : x < 0
  · rw [if_pos c1, if_neg (by omega)]
  · rw [if_neg c1]
    by_cases c2 : x < iv M 1 2
    · rw [if_pos c2, if_pos ⟨by omega, c2⟩]
    · rw [if_neg c2, if_neg (fun q => c2 q.2)]
theorem s_demandCell {x : Int} {M : am_M} (h1 : -2147483648 ≤ x) (h2 : x < 2147483648) : g_X9_demandCell (pI x) M = some (if 0 ≤ x ∧ x < 40 then .inl () else .inr 1, M) := by
  unfold g_X9_demandCell
  rw [s_isCell M h1 h2, am_b_some]
  by_cases c1 : 0 ≤ x ∧ x < 40
  · rw [if_pos c1, if_pos c1]; rfl
  · rw [if_neg c1, if_neg c1]; rfl
theorem s_place0 {σ : Nat → Int} {r : Nat} {M : am_M} (hW : WD σ 1 M) (hO : OK σ) (hr : (r : Int) < σ 6) : g_X2_placeAt (17 + 5 * r) (pI (σ 0)) M = some (pI (fp σ r 0), M) := by
  have h := (hW.2.2.2.1 r hr).1
  rw [show 1 + 16 + 5 * r = 17 + 5 * r by omega] at h
  have := s_placeAt h (hO.2.2.2.2.2.1 r hr).1 hO.1.2 (t := 0) (by omega)
  rw [show σ 0 + ((0 : Nat) : Int) = σ 0 by omega] at this
  exact this
theorem s_isInLift {σ : Nat → Int} {r : Nat} {M : am_M} (hW : WD σ 1 M) (hO : OK σ) (hr : (r : Int) < σ 6) : g_X8_isInLift 1 (pI r) M = some (pI (if 0 < ro σ r 3 then 1 else 0), M) := by
  have hRF := hO.2.2.2.2.2.1 r hr
  have h5 : r < 5 := by have := hO.2.2.1; omega
  have e5 : am_g M 1 4 = pI (σ 0) := by rw [pi_g, hW.2.1.2.2]
  unfold g_X8_isInLift
  rw [s_robotOf M h5, am_b_some, show 1 + 15 + 5 * r + 1 = 17 + 5 * r by omega, e5, s_place0 hW hO hr, am_b_some]
  have hrg := fp_rng hRF.1 0
  simp (disch := (first | omega | exact (iv_rng _ _ _).1 | exact (iv_rng _ _ _).2)) only [pi_lit, pi_nat, pi_add, pi_sub, pi_mul, pi_neg, pi_le, pi_lt, pi_eq, pi_cn, pi_ci, pi_g, am_b_some, iv_s, iv_ls, lg_s, lg_ls, if_true, if_false, Int.reduceEq, Int.reduceLT, Int.reduceLE, Int.reduceToNat]
  by_cases h : 0 < ro σ r 3
  · have := fp_lift hRF.1 h
    rw [if_neg (by omega), if_pos h]
  · have h3 : ro σ r 3 = 0 := by have := hRF.1.2.2.2.1; omega
    have := ro_cell hRF.1
    rw [fp_zero h3, if_pos (by omega), if_neg h]
theorem s_demandOutsideLift {σ : Nat → Int} {r : Nat} {M : am_M} (hW : WD σ 1 M) (hO : OK σ) (hr : (r : Int) < σ 6) : g_X9_demandOutsideLift (pI r) M = some (if 0 < ro σ r 3 then .inr 3 else .inl (), M) := by
  unfold g_X9_demandOutsideLift
  rw [s_isInLift hW hO hr, am_b_some]
  by_cases h : 0 < ro σ r 3
  · rw [if_pos h, if_pos h]; rfl
  · rw [if_neg h, if_neg h]; rfl
/-- the demand for a final route -/
theorem s_dfr {σ : Nat → Int} {x y : Int} {M : am_M} (hW : WD σ 1 M) (hO : OK σ) (hx1 : -2147483648 ≤ x) (hx2 : x < 2147483648) (hy1 : -2147483648 ≤ y) (hy2 : y < 2147483648) : (¬ ((0 ≤ x ∧ x < σ 6) ∧ (0 ≤ y ∧ y < 40)) ∧ g_X9_demandFinalRoute (pI x) (pI y) M = some (.inr 1, M)) ∨ ∃ r : Nat, x = r ∧ (r : Int) < σ 6 ∧ (0 ≤ y ∧ y < 40) ∧ ((0 < ro σ r 3 ∧ g_X9_demandFinalRoute (pI r) (pI y) M = some (.inr 3, M)) ∨ (ro σ r 3 = 0 ∧ ∃ O, fr [158, 159, 160, 162, 163, 164, 165] M O ∧ iv O 158 2 = σ 0 ∧ ((∃ α n, g_X9_demandFinalRoute (pI r) (pI y) M = some (.inl (), O) ∧ rtg σ r (-1) 0 (ro σ r 0) y 1 α n ∧ RW σ 158 (ro σ r 0) α n O) ∨ (g_X9_demandFinalRoute (pI r) (pI y) M = some (.inr 4, O) ∧ ∀ e', e' ≤ 30 → ¬ okE σ r (-1) 0 (ro σ r 0) y 1 e')))) := by
  have h12 : iv M 1 2 = σ 6 := hW.2.1.1
  by_cases c1 : 0 ≤ x ∧ x < σ 6
  · by_cases c2 : 0 ≤ y ∧ y < 40
    · right
      obtain ⟨r, rfl⟩ : ∃ r : Nat, x = r := ⟨x.toNat, by omega⟩
      refine ⟨r, rfl, c1.2, c2, ?_⟩
      have g1 := s_demandRobot (M := M) hx1 hx2
      rw [h12, if_pos c1] at g1
      have g2 := s_demandCell (M := M) hy1 hy2
      rw [if_pos c2] at g2
      have g3 := s_demandOutsideLift hW hO c1.2
      by_cases c3 : 0 < ro σ r 3
      · left
        refine ⟨c3, ?_⟩
        rw [if_pos c3] at g3
        unfold g_X9_demandFinalRoute
        rw [g1, am_bx_inl, g2, am_bx_inl, g3, am_bx_inr]
      · right
        have h3 : ro σ r 3 = 0 := by have := (hO.2.2.2.2.2.1 r c1.2).1.2.2.2.1; omega
        refine ⟨h3, ?_⟩
        rw [if_neg c3] at g3
        obtain ⟨O, f1, e2, h⟩ := s_findFinal hW hO c1.2 h3 c2
        refine ⟨O, f1, e2, ?_⟩
        rcases h with ⟨α, n, g4, q1, q2⟩ | ⟨g4, q1⟩
        · refine Or.inl ⟨α, n, ?_, q1, q2⟩
          unfold g_X9_demandFinalRoute
          rw [g1, am_bx_inl, g2, am_bx_inl, g3, am_bx_inl, g4, am_b_some]
          rfl
        · refine Or.inr ⟨?_, q1⟩
          unfold g_X9_demandFinalRoute
          rw [g1, am_bx_inl, g2, am_bx_inl, g3, am_bx_inl, g4, am_b_some]
          rfl
    · left
      refine ⟨fun q => c2 q.2, ?_⟩
      have g1 := s_demandRobot (M := M) hx1 hx2
      rw [h12, if_pos c1] at g1
      have g2 := s_demandCell (M := M) hy1 hy2
      rw [if_neg c2] at g2
      unfold g_X9_demandFinalRoute
      rw [g1, am_bx_inl, g2, am_bx_inr]
  · left
    refine ⟨fun q => c1 q.1, ?_⟩
    have g1 := s_demandRobot (M := M) hx1 hx2
    rw [h12, if_neg c1] at g1
    unfold g_X9_demandFinalRoute
    rw [g1, am_bx_inr]
end QN
