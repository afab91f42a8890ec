/-! an entry is done, on both sides -/
section SP
theorem mtl_op {v f : Int} {Q : am_M} (hv : 0 ≤ v ∧ v ≤ 5) (hf : f = 0 ∨ f = 1 ∨ f = 2 ∨ f = 3) (h : iv Q 174 0 = f) : (if pI v < (0 : Int32) then (some ((0 : Int32), Q)) else (if (am_g Q 174 0) = (0 : Int32) then (some ((1 : Int32), Q)) else (some ((0 : Int32), Q)))) = some (pI (if f = 0 then 1 else 0), Q) := by
  rw [if_neg (show ¬ (pI v < (0 : Int32)) by rw [show (0 : Int32) = pI 0 from rfl, pi_lt (by omega) (by omega) (by omega) (by omega)]; omega), pi_g, h]
  rcases hf with rfl | rfl | rfl | rfl <;> rfl
theorem EN_one {σ : Nat → Int} {A P : am_M} {l a b b' : Int} (hW : WD σ 1 A) (hO : OK σ) (hs : sg P = σ) (hl : lett l) (ha : 0 ≤ a ∧ a < 40) (hb : l = 108 → (b' = b ∧ 0 ≤ b ∧ b < 40)) : ∃ (f : Int) (A' P' : am_M), g_X8_follow 1 (pI l) (pI a) (pI b') A = some (pI f, A') ∧ mtl (1 : Int32) (pI l) (pI a) (pI b) P = some (pI (if f = 0 then 1 else 0), P') ∧ (f = 0 ∨ f = 1 ∨ f = 2 ∨ f = 3) ∧ fr KC A A' ∧ fr [174, 175, 180, 181] P P' ∧ (∀ i, i ≠ 0 → iv P' 174 i = iv P 174 i) ∧ (f = 0 → WD (sg P') 1 A' ∧ OK (sg P')) := by
  have hl' := hl
  unfold lett at hl'
  have c1 : (pI l = (119 : Int32)) = (l = 119) := pi_eq (b := 119) (by omega) (by omega) (by omega) (by omega)
  have c2 : (pI l = (99 : Int32)) = (l = 99) := pi_eq (b := 99) (by omega) (by omega) (by omega) (by omega)
  have c3 : (pI l = (102 : Int32)) = (l = 102) := pi_eq (b := 102) (by omega) (by omega) (by omega) (by omega)
  have c4 : (pI l = (108 : Int32)) = (l = 108) := pi_eq (b := 108) (by omega) (by omega) (by omega) (by omega)
  have c5 : (pI l = (114 : Int32)) = (l = 114) := pi_eq (b := 114) (by omega) (by omega) (by omega) (by omega)
  have kind : ∀ k : Int, 0 ≤ k ∧ k ≤ 2 → g_X8_follow 1 (pI l) (pI a) (pI b') A = am_b (g_X8_makeKind 1 (pI a) (pI k) A) (fun v4 M3 => (some (v4, M3))) → mtl (1 : Int32) (pI l) (pI a) (pI b) P = am_b (g_X10_setCell (pI a) (pI k) P) (fun v23 M22 => (if v23 < (0 : Int32) then (some ((0 : Int32), M22)) else (if (am_g M22 174 0) = (0 : Int32) then (some ((1 : Int32), M22)) else (some ((0 : Int32), M22))))) → ∃ (f : Int) (A' P' : am_M), g_X8_follow 1 (pI l) (pI a) (pI b') A = some (pI f, A') ∧ mtl (1 : Int32) (pI l) (pI a) (pI b) P = some (pI (if f = 0 then 1 else 0), P') ∧ (f = 0 ∨ f = 1 ∨ f = 2 ∨ f = 3) ∧ fr KC A A' ∧ fr [174, 175, 180, 181] P P' ∧ (∀ i, i ≠ 0 → iv P' 174 i = iv P 174 i) ∧ (f = 0 → WD (sg P') 1 A' ∧ OK (sg P')) := by
    intro k hk e1 e2
    obtain ⟨v, Q, g2, f2, k2, t2, v1, v2, v3⟩ := s_msetCell (c := a) (k := k) hs hO (by omega) (by omega) (by omega) (by omega)
    have g1 := s_makeKind (c := a) (k := k) hW hO (by omega) (by omega) (by omega) (by omega)
    refine ⟨fK σ a k, if fK σ a k = 0 then am_s A 3 a.toNat (pI k) else A, Q, ?_, ?_, fK_rng σ a k, ?_, f2, k2, fun h0 => ?_⟩
    · rw [e1, g1, am_b_some]
    · rw [e2, g2, am_b_some]
      exact mtl_op (by omega) (fK_rng σ a k) t2
    · split
      · exact fr_s (mem_KC.mpr (by omega))
      · exact fr_refl _ _
    · rw [if_pos h0, (v2 h0).2]
      obtain ⟨n1, n2⟩ := kd_new hO hW h0
      exact ⟨n2, n1⟩
  by_cases d4 : l = 108
  · obtain ⟨rfl, hb1, hb2⟩ := hb d4
    obtain ⟨v, Q, g2, f2, k2, t2, v1, v2, v3⟩ := s_maddLift (a := a) (b := b') hs hO (by omega) (by omega) (by omega) (by omega)
    have g1 := s_makeLift (a := a) (b := b') hW hO (by omega) (by omega) (by omega) (by omega)
    refine ⟨fLi σ a b', if fLi σ a b' = 0 then liM A (σ 1).toNat a b' else A, Q, ?_, ?_, fLi_rng σ a b', ?_, fr_mono f2 (by simp), k2, fun h0 => ?_⟩
    · unfold g_X8_follow
      simp only [c1, c2, c3, c4, c5]
      rw [if_neg (by omega), if_neg (by omega), if_pos d4, g1, am_b_some]
    · unfold mtl
      simp only [c1, c2, c3, c4, c5]
      rw [if_neg (show ¬ ((1 : Int32) = 0) by decide), if_pos d4, g2, am_b_some]
      exact mtl_op (by omega) (fLi_rng σ a b') t2
    · split
      · unfold liM
        have m : ∀ x, 1 ≤ x ∧ x < 53 → x ∈ KC := fun x hx => mem_KC.mpr hx
        exact fr_trans (fr_s (m 5 (by omega))) (fr_trans (fr_s (m 5 (by omega))) (fr_trans (fr_s (m 4 (by omega))) (fr_trans (fr_s (m 4 (by omega))) (fr_s (m 2 (by omega))))))
      · exact fr_refl _ _
    · rw [if_pos h0, (v2 h0).2]
      obtain ⟨n1, n2⟩ := li_new hO hW h0
      exact ⟨n2, n1⟩
  · by_cases d5 : l = 114
    · obtain ⟨v, Q, g2, f2, k2, t2, v1, v2, v3⟩ := s_maddRobot (c := a) (b := 100) hs hO (by omega) (by omega) (by omega) (by omega)
      obtain ⟨N, g1, n1, n2⟩ := s_makeRobot (c := a) (b := 100) hW hO (by omega) (by omega) (by omega) (by omega)
      refine ⟨fRo σ a 100, N, Q, ?_, ?_, fRo_rng σ a 100, ?_, f2, k2, fun h0 => ?_⟩
      · unfold g_X8_follow
        simp only [c1, c2, c3, c4, c5]
        rw [if_neg (by omega), if_neg (by omega), if_neg (by omega), if_neg (by omega), show (100 : Int32) = pI 100 from rfl, g1, am_b_some]
      · unfold mtl
        simp only [c1, c2, c3, c4, c5]
        rw [if_neg (show ¬ ((1 : Int32) = 0) by decide), if_neg d4, if_pos d5, show (100 : Int32) = pI 100 from rfl, g2, am_b_some]
        exact mtl_op (by omega) (fRo_rng σ a 100) t2
      · by_cases h0 : fRo σ a 100 = 0
        · have h6 := (fRo_ok h0).2.2
          have h6b := hO.2.2.1
          exact fr_mono (n2 h0).1 (fun x hx => mem_KC.mpr (by simp at hx; omega))
        · rw [n1 h0]; exact fr_refl _ _
      · obtain ⟨q1, q2, q3, q4, q5, q6, q7, q8, q9, q10⟩ := n2 h0
        rw [(v2 h0).2]
        obtain ⟨r1, r2⟩ := ro_new hO hW h0 q1 q2 q3 q4 q5 q6 q7 q8 q9 q10
        exact ⟨r2, r1⟩
    · by_cases d1 : l = 119
      · refine kind 1 (by omega) ?_ ?_
        · unfold g_X8_follow
          simp only [c1, c2, c3, c4, c5]
          rw [if_neg (by omega), if_neg (by omega), if_neg d4, if_pos d1]
          rfl
        · unfold mtl
          simp only [c1, c2, c3, c4, c5]
          rw [if_neg (show ¬ ((1 : Int32) = 0) by decide), if_neg d4, if_neg d5, if_pos d1]
          rfl
      · by_cases d2 : l = 99
        · refine kind 2 (by omega) ?_ ?_
          · unfold g_X8_follow
            simp only [c1, c2, c3, c4, c5]
            rw [if_pos d2]
            rfl
          · unfold mtl
            simp only [c1, c2, c3, c4, c5]
            rw [if_neg (show ¬ ((1 : Int32) = 0) by decide), if_neg d4, if_neg d5, if_neg d1, if_pos d2]
            rfl
        · have d3 : l = 102 := by omega
          refine kind 0 (by omega) ?_ ?_
          · unfold g_X8_follow
            simp only [c1, c2, c3, c4, c5]
            rw [if_neg d2, if_pos d3]
            rfl
          · unfold mtl
            simp only [c1, c2, c3, c4, c5]
            rw [if_neg (show ¬ ((1 : Int32) = 0) by decide), if_neg d4, if_neg d5, if_neg d1, if_neg d2]
            rfl
end SP
