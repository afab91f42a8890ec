/-! one robot's tick in the model: its ways -/
section DOF
theorem s_J47 {P : am_M} {r : Nat} {a : Int} {w : Int32} (hr : r < 5) (ha : 0 ≤ a ∧ a < 7) : ∃ Q, g_X10_does_J47 (pI r) w (pI a) P = g_X10_does_J66 (pI r) w (pI a) Q ∧ fr [175] P Q ∧ (∀ j : Nat, j ≠ 88 + 42 * r + 1 → am_g Q 175 j = am_g P 175 j) ∧ am_g Q 175 (88 + 42 * r + 1) = if 0 < ro (sg P) r 3 then am_g P 175 (88 + 42 * r + 1) else am_g P 175 (88 + 42 * r + 1) + pI (-(cst a)) := by
  unfold g_X10_does_J47
  by_cases c : 0 < ro (sg P) r 3
  · rw [mlift_t rfl hr c, am_b_some, if_neg ci1]
    exact ⟨P, rfl, fr_refl _ _, fun _ _ => rfl, (if_pos c).symm⟩
  · rw [mlift_f rfl hr c, am_b_some, if_pos ci0, s_costs _ (by omega) (by omega), am_b_some, m_adds 1 1 rfl hr (by omega), am_b_some, pi_neg]
    exact ⟨_, rfl, fr_s (by decide), fun j hj => gx_ne hj, by rw [gx_eq, if_neg c]⟩
theorem s_J66 {P : am_M} {r : Nat} {a : Int} {w : Int32} (hr : r < 5) (ha : 0 ≤ a ∧ a < 7) : ∃ Q, g_X10_does_J66 (pI r) w (pI a) P = g_X10_does_J87 (pI r) w (pI a) Q ∧ fr [175] P Q ∧ (∀ j : Nat, j ≠ 88 + 42 * r + 6 → am_g Q 175 j = am_g P 175 j) ∧ am_g Q 175 (88 + 42 * r + 6) = if 5 ≤ a ∧ ¬ 0 < ro (sg P) r 3 then am_g P 175 (88 + 42 * r + 6) + pI 1 else am_g P 175 (88 + 42 * r + 6) := by
  unfold g_X10_does_J66
  have hc : (pI a < (5 : Int32)) = (a < 5) := pi_lt (b := 5) (by omega) (by omega) (by omega) (by omega)
  simp only [hc]
  by_cases d : a < 5
  · rw [if_pos d]
    exact ⟨P, rfl, fr_refl _ _, fun _ _ => rfl, (if_neg (by omega)).symm⟩
  · rw [if_neg d]
    by_cases c : 0 < ro (sg P) r 3
    · rw [mlift_t rfl hr c, am_b_some, if_neg ci1]
      exact ⟨P, rfl, fr_refl _ _, fun _ _ => rfl, (if_neg (by omega)).symm⟩
    · rw [mlift_f rfl hr c, am_b_some, if_pos ci0, m_adds 6 6 rfl hr (by omega), am_b_some]
      exact ⟨_, rfl, fr_s (by decide), fun j hj => gx_ne hj, by rw [gx_eq, if_pos (by omega)]; rfl⟩
theorem s_J87 {P : am_M} {r : Nat} {a : Int} {w : Int32} (hr : r < 5) (ha : 0 ≤ a ∧ a < 7) : ∃ Q, g_X10_does_J87 (pI r) w (pI a) P = g_X10_does_J103 (pI r) w (pI a) Q ∧ fr [175] P Q ∧ (∀ j : Nat, j ≠ 88 + 42 * r + 5 → am_g Q 175 j = am_g P 175 j) ∧ am_g Q 175 (88 + 42 * r + 5) = if 1 ≤ a ∧ a ≤ 4 then am_g P 175 (88 + 42 * r + 5) + pI 1 else am_g P 175 (88 + 42 * r + 5) := by
  unfold g_X10_does_J87
  by_cases c : 1 ≤ a ∧ a ≤ 4
  · have m : g_X10_in (pI a) (1 : Int32) (4 : Int32) P = some (pI 1, P) := min_t (b := 1) (c := 4) (by omega) (by omega) (by omega) (by omega)
    rw [m, am_b_some, if_neg ci1, m_adds 5 5 rfl hr (by omega), am_b_some]
    exact ⟨_, rfl, fr_s (by decide), fun j hj => gx_ne hj, by rw [gx_eq, if_pos c]; rfl⟩
  · have m : g_X10_in (pI a) (1 : Int32) (4 : Int32) P = some (pI 0, P) := min_f (b := 1) (c := 4) (by omega) (by omega) (by omega) (by omega) (by omega) (by omega) c
    rw [m, am_b_some, if_pos ci0]
    exact ⟨P, rfl, fr_refl _ _, fun _ _ => rfl, (if_neg c).symm⟩
/-- what the row shows after one tick of a robot that does a -/
def DRM (M N : am_M) (r : Nat) (a : Int) : Prop := (∀ j : Nat, (j < 88 + 42 * r ∨ 130 + 42 * r ≤ j) → am_g N 175 j = am_g M 175 j) ∧ am_g N 175 (88 + 42 * r + 10) = am_g M 175 (88 + 42 * r + 10) + pI 1 ∧ am_g N 175 (88 + 42 * r + 4) = am_g M 175 (88 + 42 * r + 4) ∧ am_g N 175 (88 + 42 * r + 8) = am_g M 175 (88 + 42 * r + 8) ∧ (am_g N 175 (88 + 42 * r + 7) = if a = 0 then am_g M 175 (88 + 42 * r + 7) + pI 1 else am_g M 175 (88 + 42 * r + 7)) ∧ (am_g N 175 (88 + 42 * r + 5) = if 1 ≤ a ∧ a ≤ 4 then am_g M 175 (88 + 42 * r + 5) + pI 1 else am_g M 175 (88 + 42 * r + 5)) ∧ (am_g N 175 (88 + 42 * r + 6) = if 5 ≤ a ∧ ¬ 0 < ro (sg M) r 3 then am_g M 175 (88 + 42 * r + 6) + pI 1 else am_g M 175 (88 + 42 * r + 6)) ∧ (am_g N 175 (88 + 42 * r + 9) = if a = 0 ∧ sg M (8 + ro (sg M) r 0).toNat = 2 then am_g M 175 (88 + 42 * r + 9) + gI (am_g M 175 (88 + 42 * r + 1)) else am_g M 175 (88 + 42 * r + 9)) ∧ (am_g N 175 (88 + 42 * r + 1) = if a = 0 then (if sg M (8 + ro (sg M) r 0).toNat = 2 then am_g M 175 (88 + 42 * r + 1) + gI (am_g M 175 (88 + 42 * r + 1)) else am_g M 175 (88 + 42 * r + 1)) else if 0 < ro (sg M) r 3 then am_g M 175 (88 + 42 * r + 1) else am_g M 175 (88 + 42 * r + 1) + pI (-(cst a))) ∧ if 0 < ro (sg M) r 2 then JX (sg M) (sg N) r a else ro (sg N) r 0 = ro (sg M) r 0 ∧ ro (sg N) r 2 = ro (sg M) r 2 ∧ ro (sg N) r 3 = ro (sg M) r 3
theorem JX_congr {M P N : am_M} {r : Nat} {a : Int} (h : ∀ j : Nat, JZ r j → am_g P 175 j = am_g M 175 j) (hl : ∀ j : Nat, j < 88 → am_g P 175 j = am_g M 175 j) (hwl : wl (sg M)) (h2 : ro (sg M) r 2 ≤ 30) (hx : JX (sg P) (sg N) r a) : JX (sg M) (sg N) r a := by
  have e0 : ro (sg P) r 0 = ro (sg M) r 0 := m_ro3 (w := 0) (h _ (by unfold JZ; omega))
  have e2 : ro (sg P) r 2 = ro (sg M) r 2 := m_ro3 (w := 2) (h _ (by unfold JZ; omega))
  have e3 : ro (sg P) r 3 = ro (sg M) r 3 := m_ro3 (w := 3) (h _ (by unfold JZ; omega))
  unfold JX at hx ⊢
  rw [e0, e2, e3, mvs_congr (τ := sg P) (σ := sg M) (fun k hk => m_sg (hl k (by omega))) hwl] at hx
  by_cases c : ro (sg M) r 3 + 1 = tk a
  · rw [if_pos c] at hx ⊢
    refine ⟨hx.1, hx.2.1, hx.2.2.1, fun k hk => ?_⟩
    rw [hx.2.2.2 k hk]
    exact m_ac (k := k + 1) (l := k + 1) (h _ (by unfold JZ; omega))
  · rw [if_neg c] at hx ⊢
    refine ⟨hx.1, hx.2.1, hx.2.2.1, fun k hk => ?_⟩
    rw [hx.2.2.2 k hk]
    exact m_ac (k := k) (l := k) (h _ (by unfold JZ; omega))
theorem s_does {M : am_M} {r : Nat} (hr : r < 5) (hwl : wl (sg M)) (hw : wr (sg M) r) : ∃ N, g_X10_does (pI r) M = some ((), N) ∧ fr [175] M N ∧ DRM M N r (fa (sg M) r 0) := by
  obtain ⟨w1, w2, w3, w4, w5, w6⟩ := hw
  have hA : 0 ≤ ro (sg M) r 0 ∧ ro (sg M) r 0 < 40 := w3 0 (by omega)
  have hfa : fa (sg M) r 0 = if 0 < ro (sg M) r 2 then ac (sg M) r 0 else 0 := rfl
  obtain ⟨P1, eP1⟩ : ∃ P1, P1 = am_s M 175 (88 + 42 * r + 10) (am_g M 175 (88 + 42 * r + 10) + pI 1) := ⟨_, rfl⟩
  have f1 : fr [175] M P1 := by rw [eP1]; exact fr_s (by decide)
  have k1 : ∀ j : Nat, j ≠ 88 + 42 * r + 10 → am_g P1 175 j = am_g M 175 j := fun j hj => by rw [eP1, gx_ne hj]
  have e2 : am_g P1 175 (88 + 42 * r + 2) = pI (ro (sg M) r 2) := by rw [k1 _ (by omega)]; exact (m_ro (w := 2)).symm
  have ea : am_g P1 175 (99 + 42 * r) = pI (ac (sg M) r 0) := by
    rw [k1 _ (by omega), show 99 + 42 * r = 88 + 42 * r + 11 by omega]
    exact (m_ro (w := 11)).symm
  have z0 : ro (sg P1) r 0 = ro (sg M) r 0 := m_ro3 (w := 0) (k1 _ (by omega))
  have z3 : ro (sg P1) r 3 = ro (sg M) r 3 := m_ro3 (w := 3) (k1 _ (by omega))
  have zk : sg P1 (8 + ro (sg M) r 0).toNat = sg M (8 + ro (sg M) r 0).toNat := m_sg (k1 _ (by omega))
  have hst : ∃ (w : Int32) (a : Int) (P2 : am_M), a = fa (sg M) r 0 ∧ (0 ≤ a ∧ a < 7) ∧ (w = 0 ↔ ¬ 0 < ro (sg M) r 2) ∧ g_X10_does (pI r) M = g_X10_does_J47 (pI r) w (pI a) P2 ∧ fr [175] M P2 ∧ (∀ j : Nat, j ≠ 88 + 42 * r + 10 → j ≠ 88 + 42 * r + 7 → j ≠ 88 + 42 * r + 1 → j ≠ 88 + 42 * r + 9 → am_g P2 175 j = am_g M 175 j) ∧ am_g P2 175 (88 + 42 * r + 10) = am_g M 175 (88 + 42 * r + 10) + pI 1 ∧ (am_g P2 175 (88 + 42 * r + 7) = if a = 0 then am_g M 175 (88 + 42 * r + 7) + pI 1 else am_g M 175 (88 + 42 * r + 7)) ∧ (am_g P2 175 (88 + 42 * r + 9) = if a = 0 ∧ sg M (8 + ro (sg M) r 0).toNat = 2 then am_g M 175 (88 + 42 * r + 9) + gI (am_g M 175 (88 + 42 * r + 1)) else am_g M 175 (88 + 42 * r + 9)) ∧ (am_g P2 175 (88 + 42 * r + 1) = if a = 0 then (if sg M (8 + ro (sg M) r 0).toNat = 2 then am_g M 175 (88 + 42 * r + 1) + gI (am_g M 175 (88 + 42 * r + 1)) else am_g M 175 (88 + 42 * r + 1)) else am_g M 175 (88 + 42 * r + 1)) := by
    obtain ⟨P2, g1, f2, b1, b2, b3, b4⟩ := s_mwaits (P := P1) hr (by rw [z0]; exact hA)
    rw [z0, zk] at b3 b4
    have hA0 : ∀ w : Int32, ∃ x : Unit, True := fun _ => ⟨(), trivial⟩
    by_cases c : 0 < ro (sg M) r 2
    · rw [if_pos c] at hfa
      have ha : 0 ≤ ac (sg M) r 0 ∧ ac (sg M) r 0 < 7 := w2 0 (by omega)
      have hact : g_X10_act (pI r) (0 : Int32) P1 = some (pI (ac (sg M) r 0), P1) := by
        unfold g_X10_act
        rw [show (11 : Int32) + (0 : Int32) = pI ((11 : Nat) : Int) from rfl, m_of _ 11 rfl hr (by omega), am_b_some, show 88 + 42 * r + 11 = 99 + 42 * r by omega, ea]
      have hd : g_X10_does (pI r) M = if pI (ac (sg M) r 0) = (0 : Int32) then am_b (g_X10_waits (pI r) P1) (fun _ M56 => g_X10_does_J47 (pI r) (1 : Int32) (pI (ac (sg M) r 0)) M56) else g_X10_does_J47 (pI r) (1 : Int32) (pI (ac (sg M) r 0)) P1 := by
        unfold g_X10_does
        rw [m_adds 10 10 rfl hr (by omega), am_b_some, show (1 : Int32) = pI 1 from rfl, ← eP1, m_of 2 2 rfl hr (by omega), am_b_some, e2, if_neg (show ¬ (pI (ro (sg M) r 2) ≤ (0 : Int32)) by
          show ¬ (_ ≤ pI 0)
          rw [pi_le (by omega) (by omega) (by omega) (by omega)]
          omega)]
        unfold g_X10_does_J22
        rw [if_neg (show ¬ (pI 1 = (0 : Int32)) by decide), hact, am_b_some]
      by_cases d : ac (sg M) r 0 = 0
      · rw [if_pos (show pI (ac (sg M) r 0) = (0 : Int32) by rw [d]; rfl), g1, am_b_some] at hd
        refine ⟨1, ac (sg M) r 0, P2, hfa.symm, ha, ⟨fun q => absurd q (by decide), fun q => absurd c q⟩, hd, fr_trans f1 f2, fun j j10 j7 j1 j9 => ?_, ?_, ?_, ?_, ?_⟩
        · rw [b1 j j7 j1 j9, k1 j j10]
        · rw [b1 _ (by omega) (by omega) (by omega), eP1, gx_eq]
        · rw [b2, if_pos d, k1 _ (by omega)]
        · rw [b4, k1 _ (by omega), k1 _ (by omega)]
          by_cases e : sg M (8 + ro (sg M) r 0).toNat = 2
          · rw [if_pos e, if_pos ⟨d, e⟩]
          · rw [if_neg e, if_neg (fun q => e q.2)]
        · rw [b3, if_pos d, k1 _ (by omega)]
      · rw [if_neg (show ¬ (pI (ac (sg M) r 0) = (0 : Int32)) from fun q => d ((pi_eq (b := 0) (by omega) (by omega) (by omega) (by omega)).mp q))] at hd
        refine ⟨1, ac (sg M) r 0, P1, hfa.symm, ha, ⟨fun q => absurd q (by decide), fun q => absurd c q⟩, hd, f1, fun j j10 _ _ _ => k1 j j10, by rw [eP1, gx_eq], ?_, ?_, ?_⟩
        · rw [if_neg d, k1 _ (by omega)]
        · rw [if_neg (fun q => d q.1), k1 _ (by omega)]
        · rw [if_neg d, k1 _ (by omega)]
    · rw [if_neg c] at hfa
      have hd : g_X10_does (pI r) M = am_b (g_X10_waits (pI r) P1) (fun _ M56 => g_X10_does_J47 (pI r) (0 : Int32) (pI 0) M56) := by
        unfold g_X10_does
        rw [m_adds 10 10 rfl hr (by omega), am_b_some, show (1 : Int32) = pI 1 from rfl, ← eP1, m_of 2 2 rfl hr (by omega), am_b_some, e2, if_pos (show pI (ro (sg M) r 2) ≤ (0 : Int32) by
          show _ ≤ pI 0
          rw [pi_le (by omega) (by omega) (by omega) (by omega)]
          omega)]
        unfold g_X10_does_J22
        rw [if_pos rfl]
        rfl
      rw [g1, am_b_some] at hd
      refine ⟨0, 0, P2, hfa.symm, by omega, ⟨fun _ => c, fun _ => rfl⟩, hd, fr_trans f1 f2, fun j j10 j7 j1 j9 => ?_, ?_, ?_, ?_, ?_⟩
      · rw [b1 j j7 j1 j9, k1 j j10]
      · rw [b1 _ (by omega) (by omega) (by omega), eP1, gx_eq]
      · rw [b2, if_pos rfl, k1 _ (by omega)]
      · rw [b4, k1 _ (by omega), k1 _ (by omega)]
        by_cases e : sg M (8 + ro (sg M) r 0).toNat = 2
        · rw [if_pos e, if_pos ⟨rfl, e⟩]
        · rw [if_neg e, if_neg (fun q => e q.2)]
      · rw [b3, if_pos rfl, k1 _ (by omega)]
  obtain ⟨w, a, P2, ea', ha, hw0, hd, f2, b1, b10, b7, b9, b11⟩ := hst
  rw [← ea']
  obtain ⟨P3, d3, f3, c3, c4⟩ := s_J47 (P := P2) (w := w) hr ha
  obtain ⟨P4, d4, f4, c5, c6⟩ := s_J66 (P := P3) (w := w) hr ha
  obtain ⟨P5, d5, f5, c7, c8⟩ := s_J87 (P := P4) (w := w) hr ha
  have y3 : ro (sg P2) r 3 = ro (sg M) r 3 := m_ro3 (w := 3) (b1 _ (by omega) (by omega) (by omega) (by omega))
  have y3' : ro (sg P3) r 3 = ro (sg M) r 3 := (m_ro3 (w := 3) (c3 _ (by omega))).trans y3
  have hsame : ∀ j : Nat, j ≠ 88 + 42 * r + 1 → ¬ (88 + 42 * r + 5 ≤ j ∧ j ≤ 88 + 42 * r + 10) → am_g P5 175 j = am_g M 175 j := fun j j1 j2 => by
    rw [c7 j (by omega), c5 j (by omega), c3 j j1, b1 j (by omega) (by omega) j1 (by omega)]
  have hs48 : am_g P5 175 (88 + 42 * r + 8) = am_g M 175 (88 + 42 * r + 8) := by
    rw [c7 _ (by omega), c5 _ (by omega), c3 _ (by omega), b1 _ (by omega) (by omega) (by omega) (by omega)]
  have hfin : ∃ N, g_X10_does (pI r) M = some ((), N) ∧ fr [175] M N ∧ (∀ j : Nat, ¬ JZ r j → am_g N 175 j = am_g P5 175 j) ∧ if 0 < ro (sg M) r 2 then JX (sg M) (sg N) r a else ro (sg N) r 0 = ro (sg M) r 0 ∧ ro (sg N) r 2 = ro (sg M) r 2 ∧ ro (sg N) r 3 = ro (sg M) r 3 := by
    rw [hd, d3, d4, d5]
    have f5' := fr_trans f2 (fr_trans f3 (fr_trans f4 f5))
    by_cases c : 0 < ro (sg M) r 2
    · have hwn : w ≠ 0 := fun q => hw0.mp q c
      have u0 : ro (sg P5) r 0 = ro (sg M) r 0 := m_ro3 (w := 0) (hsame _ (by omega) (by omega))
      have u2 : ro (sg P5) r 2 = ro (sg M) r 2 := m_ro3 (w := 2) (hsame _ (by omega) (by omega))
      have u3 : ro (sg P5) r 3 = ro (sg M) r 3 := m_ro3 (w := 3) (hsame _ (by omega) (by omega))
      have hlow : ∀ k : Nat, k < 88 → am_g P5 175 k = am_g M 175 k := fun k hk => hsame k (by omega) (by omega)
      have hwl5 : wl (sg P5) := by
        refine ⟨?_, fun k hk => ?_⟩
        · rw [m_sg (hlow 1 (by omega))]
          exact hwl.1
        · rw [m_sg (hlow 1 (by omega))] at hk
          have := hwl.1
          rw [m_sg (hlow (2 + k) (by omega))]
          exact hwl.2 k hk
      obtain ⟨N, g1, f6, a1, a2⟩ := s_J103 (P := P5) (w := w) (a := a) hr hwl5 hwn (by rw [u2]; omega) (by rw [u3]; by_cases q : 0 < ro (sg M) r 3; (have := w5 q; omega); omega) (by rw [u0]; exact hA) ha
      refine ⟨N, g1, fr_trans f5' f6, a1, ?_⟩
      rw [if_pos c]
      exact JX_congr (fun j hj => hsame j (by unfold JZ at hj; omega) (by unfold JZ at hj; omega)) hlow hwl w1.2 a2
    · have hwn := hw0.mpr c
      refine ⟨P5, ?_, f5', fun _ _ => rfl, ?_⟩
      · unfold g_X10_does_J103
        rw [if_pos hwn]
      · rw [if_neg c]
        exact ⟨m_ro3 (w := 0) (hsame _ (by omega) (by omega)), m_ro3 (w := 2) (hsame _ (by omega) (by omega)), m_ro3 (w := 3) (hsame _ (by omega) (by omega))⟩
  obtain ⟨N, g1, f6, a1, a2⟩ := hfin
  refine ⟨N, g1, f6, fun j hj => ?_, ?_, ?_, ?_, ?_, ?_, ?_, ?_, ?_, a2⟩
  · rw [a1 j (by unfold JZ; omega), hsame j (by omega) (by omega)]
  · rw [a1 _ (by unfold JZ; omega), c7 _ (by omega), c5 _ (by omega), c3 _ (by omega), b10]
  · rw [a1 _ (by unfold JZ; omega), hsame _ (by omega) (by omega)]
  · rw [a1 _ (by unfold JZ; omega), hs48]
  · rw [a1 _ (by unfold JZ; omega), c7 _ (by omega), c5 _ (by omega), c3 _ (by omega), b7]
  · rw [a1 _ (by unfold JZ; omega), c8, c5 _ (by omega), c3 _ (by omega), b1 _ (by omega) (by omega) (by omega) (by omega)]
  · rw [a1 _ (by unfold JZ; omega), c7 _ (by omega), c6, y3', c3 _ (by omega), b1 _ (by omega) (by omega) (by omega) (by omega)]
  · rw [a1 _ (by unfold JZ; omega), c7 _ (by omega), c5 _ (by omega), c3 _ (by omega), b9]
  · rw [a1 _ (by unfold JZ; omega), c7 _ (by omega), c5 _ (by omega), c4, y3, b11]
    by_cases d : a = 0
    · rw [if_pos d, if_pos d]
      have : ¬ 0 < ro (sg M) r 3 := fun q => by
        have q5 := w5 q
        rw [if_pos q5.1] at hfa
        omega
      rw [if_neg this, d]
      exact Int32.add_zero _
    · rw [if_neg d, if_neg d]
end DOF
