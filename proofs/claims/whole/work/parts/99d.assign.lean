/-! a task that an idle robot takes, on both sides -/
section ASG
def KD : List Nat := KC ++ [158, 159, 160, 161, 162, 163, 164, 165]
theorem mem_KD {a : Nat} : a ∈ KD ↔ (1 ≤ a ∧ a < 53) ∨ (158 ≤ a ∧ a ≤ 165) := by
  unfold KD
  rw [List.mem_append, mem_KC]
  simp
  omega
theorem AS_serve {A B : am_M} {j r : Nat} (hW : WD (sg B) 1 A) (hO : OK (sg B)) (h11 : iv B 174 11 = -1) (hj : (j : Int) < sg B 7) (hr : (r : Int) < sg B 6) (h0 : it (sg B) j 4 = 0) (hid : ro (sg B) r 2 = 0) (hsp : ∃ α n, sv (sg B) j r 0 α n) : ∃ A' B1 B' : am_M, g_X3_letServe (pI j) (pI r) A = some (pI 0, A') ∧ g_X10_reason (pI j) (pI r) B = some (pI 0, B1) ∧ g_X10_serves (pI j) (pI r) B1 = some ((), B') ∧ fr KD A A' ∧ fr [174, 175, 180, 181, 182, 183, 184] B B' ∧ (∀ k, k ≠ 15 → k ≠ 16 → k ≠ 17 → iv B' 174 k = iv B 174 k) ∧ WD (sg B') 1 A' ∧ OK (sg B') ∧ (sg B' 6 = sg B 6 ∧ sg B' 7 = sg B 7) ∧ ∀ c : Nat, it (sg B') c 3 = it (sg B) c 3 ∧ it (sg B') c 4 = if c = j then 1 else it (sg B) c 4 := by
  generalize hσ : sg B = σ at hW hO hj hr h0 hid hsp ⊢
  have h6 := hO.2.2.1
  have h7 := hO.2.2.2.1
  have hr5 : r < 5 := by omega
  have hRF := hO.2.2.2.2.2.1 r hr
  have h4 : ro σ r 4 = -1 := by
    have := hRF.2.2.2.1
    by_cases q : 0 ≤ ro σ r 4
    · have := (hRF.2.2.2.2 q).1
      omega
    · omega
  obtain ⟨α0, n0, hsp0⟩ := hsp
  obtain ⟨w, α, n, N, g3, f3, hw, hsv, hyes⟩ := s_findService hW hO hr hj
  obtain ⟨rfl, hs1⟩ := sv_uniq hsp0 hsv
  obtain ⟨hR, hS⟩ := hyes rfl
  have hWN : WD σ 1 N := WD_fr hW h6.2 h7.2 f3 (fun a a1 a2 => by simp; omega)
  obtain ⟨hO2, A1, N2, g5, g6, f6, hW2⟩ := s_serveYes hWN hO hr hj (Or.inl h0) hsv hR hS
  obtain ⟨_, hL, _, _⟩ := sv_LG hO hr hj hsv
  have hn30 : n ≤ 30 := by have := hL.2.2.1; have := lt_ge α n; omega
  obtain ⟨w', β, m, B1, g7, f7, k7, hw', hsv', hyes'⟩ := s_reason (P := B) hσ hO h11 hr hj
  obtain ⟨e0, hβ⟩ := sv_uniq hsv hsv'
  subst e0
  obtain ⟨rfl, hβ2⟩ := hβ rfl
  have hMRt := MRt_congr (fun k hk => (hβ2 k hk).symm) (hyes' rfl)
  have hs1 : sg B1 = σ := (sg_fr f7 (by decide)).trans hσ
  obtain ⟨B', g8, f8, e8⟩ := s_mserves hs1 hO hr hj hn30 hMRt
  have gt : ∀ X : am_M, g_X8_taskOf 1 (pI j) X = some (41 + j, X) := fun X => by rw [s_taskOf (w := 1) (j := j) X (by omega), show 1 + 40 + j = 41 + j by omega]
  refine ⟨N2, B1, B', ?_, g7, g8, ?_, fr_trans (fr_mono f7 (by simp)) (fr_mono f8 (by simp)), fun k a1 a2 a3 => ?_, by rw [e8]; exact hW2, by rw [e8]; exact hO2, ?_, fun c => ?_⟩
  · unfold g_X3_letServe
    rw [g3, am_b_some, if_pos (show pI 0 = (0 : Int32) from rfl), g5, am_b_some, gt, am_b_some, g6, am_b_some]
  · refine fr_trans (fr_mono f3 (fun a ha => mem_KD.mpr (by simp at ha; omega))) (fr_mono f6 (fun a ha => mem_KD.mpr ?_))
    rw [h4] at ha
    simp at ha
    omega
  · rw [fr_i f8 (by simp)]
    exact k7 k a1 a2 a3
  · rw [e8, asF_low (by omega) (by omega), asF_low (by omega) (by omega), folF_low (by omega), folF_low (by omega)]
    exact ⟨rfl, rfl⟩
  · rw [e8]
    have a3 : it (asF (folF σ r α n) j r) c 3 = it (folF σ r α n) c 3 := by
      have := asF_it (τ := folF σ r α n) (j := j) (r := r) (i := c) (k := 3) hr5 (by omega)
      rw [if_neg (by omega), if_neg (by omega), if_neg (by omega)] at this
      exact this
    have a4 : it (asF (folF σ r α n) j r) c 4 = if c = j then 1 else it (folF σ r α n) c 4 := by
      have := asF_it (τ := folF σ r α n) (j := j) (r := r) (i := c) (k := 4) hr5 (by omega)
      rw [if_neg (by omega), if_neg (by omega)] at this
      by_cases e : c = j
      · rw [if_pos ⟨e, rfl⟩] at this
        rw [if_pos e]
        exact this
      · rw [if_neg (fun q => e q.1)] at this
        rw [if_neg e]
        exact this
    have b3 : it (folF σ r α n) c 3 = it σ c 3 := by
      have := folF_it (σ := σ) (α := α) (n := n) hn30 hr5 (by omega) (j := c) (k := 3) (by omega)
      rw [if_neg (by omega), if_neg (by omega)] at this
      exact this
    have b4 : it (folF σ r α n) c 4 = it σ c 4 := by
      have := folF_it (σ := σ) (α := α) (n := n) hn30 hr5 (by omega) (j := c) (k := 4) (by omega)
      rw [if_neg (by omega), if_neg (by omega)] at this
      exact this
    rw [a3, a4, b3, b4]
    exact ⟨rfl, rfl⟩
end ASG
