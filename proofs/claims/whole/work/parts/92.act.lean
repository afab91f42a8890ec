/-! one robot's tick in the class -/
section CAC
theorem hx_eq {M : am_M} {a k : Nat} {v : Int32} : am_g (am_s M a k v) a k = v := by
  unfold am_g am_s
  dsimp only
  rw [if_pos ⟨rfl, rfl⟩]
theorem hx_ne {M : am_M} {a k b j : Nat} {v : Int32} (h : ¬ (b = a ∧ j = k)) : am_g (am_s M a k v) b j = am_g M b j := by
  unfold am_g am_s
  dsimp only
  rw [if_neg h]
theorem s_raise {M : am_M} {v k : Nat} (w x : Int32) (e : w = pI (k : Nat)) (hk : k < 5) : g_X4_raiseStatistic v w x M = some ((), am_s M (v + 4) k (am_g M (v + 4) k + x)) := by
  subst e
  unfold g_X4_raiseStatistic
  rw [s_at1 _ _ _ (by omega) (by omega) (by omega), am_b_some, s_put _ _ _ _ (by omega) (by omega) (by omega), am_b_some, Int.toNat_natCast, ← pi_g]
theorem sub_pi (x : Int32) (a : Int) : x - pI a = x + pI (-a) := by
  obtain ⟨y, rfl, h1, h2⟩ := pi_cast x
  rw [pi_sub, pi_add, show y - a = y + -a by omega]
/-- what a robot of the class shows after one tick -/
def CAM (σ : Nat → Int) (A N : am_M) (i : Nat) (a : Int) : Prop := (∀ k : Nat, k ≠ 2 → am_g N (16 + 5 * i) k = am_g A (16 + 5 * i) k) ∧ (am_g N (16 + 5 * i) 2 = if a = 0 then (if σ (8 + ro σ i 0).toNat = 2 then am_g A (16 + 5 * i) 2 + gI (am_g A (16 + 5 * i) 2) else am_g A (16 + 5 * i) 2) else if 0 < ro σ i 3 then am_g A (16 + 5 * i) 2 else am_g A (16 + 5 * i) 2 + pI (-(cst a))) ∧ (am_g N (16 + 5 * i + 4) 0 = if 1 ≤ a ∧ a ≤ 4 then am_g A (16 + 5 * i + 4) 0 + pI 1 else am_g A (16 + 5 * i + 4) 0) ∧ (am_g N (16 + 5 * i + 4) 1 = if 5 ≤ a ∧ ¬ 0 < ro σ i 3 then am_g A (16 + 5 * i + 4) 1 + pI 1 else am_g A (16 + 5 * i + 4) 1) ∧ (am_g N (16 + 5 * i + 4) 2 = if a = 0 then am_g A (16 + 5 * i + 4) 2 + pI 1 else am_g A (16 + 5 * i + 4) 2) ∧ am_g N (16 + 5 * i + 4) 3 = am_g A (16 + 5 * i + 4) 3 ∧ am_g N (16 + 5 * i + 4) 4 = if a = 0 ∧ σ (8 + ro σ i 0).toNat = 2 then am_g A (16 + 5 * i + 4) 4 + gI (am_g A (16 + 5 * i) 2) else am_g A (16 + 5 * i + 4) 4
theorem fp_now {σ : Nat → Int} {r : Int} : fp σ r 0 = if 0 < ro σ r 3 then 4 - fa σ r 0 else ro σ r 0 := rfl
theorem s_cact {σ : Nat → Int} {A : am_M} {i : Nat} (hi : i < 5) (hw : wr σ i) (h0 : 0 ≤ σ 0 ∧ σ 0 ≤ 1000) (hP : PR σ i (17 + 5 * i) (σ 0) A) (hC : iv A 1 4 = σ 0) (hkd : ∀ c : Nat, c < 40 → iv A 3 c = σ (8 + c)) : ∃ N, g_X8_act 1 (16 + 5 * i) A = some ((), N) ∧ fr [16 + 5 * i, 20 + 5 * i] A N ∧ CAM σ A N i (fa σ i 0) := by
  have ha := fa_rng hw 0
  have hfa : fa σ i 0 = if 0 < ro σ i 2 then ac σ i 0 else 0 := rfl
  have hA := hw.2.2.1 0 (by have := hw.1; omega)
  have hA0 : 0 ≤ ro σ i 0 ∧ ro σ i 0 < 40 := hA
  have hB : 0 < ro σ i 3 → 5 ≤ fa σ i 0 := fun q => by
    have := hw.2.2.2.2.1 q
    rw [hfa, if_pos this.1]
    exact this.2.1
  have c4 : am_g A 1 4 = pI (σ 0) := by rw [pi_g, hC]
  have g1 : g_X2_actionAt (17 + 5 * i) (pI (σ 0)) A = some (pI (fa σ i 0), A) := by
    have := s_actionAt (t := 0) hP hw (by omega) (by omega)
    rw [show σ 0 + ((0 : Nat) : Int) = σ 0 by omega] at this
    exact this
  have g2 : g_X2_placeAt (17 + 5 * i) (pI (σ 0)) A = some (pI (fp σ i 0), A) := by
    have := s_placeAt (t := 0) hP hw (by omega) (by omega)
    rw [show σ 0 + ((0 : Nat) : Int) = σ 0 by omega] at this
    exact this
  have hp := fp_rng hw 0
  have hst : g_X8_act 1 (16 + 5 * i) A = (if fa σ i 0 < 5 then (if fa σ i 0 = 0 then (am_b (g_X4_raiseStatistic (16 + 5 * i) (2 : Int32) (1 : Int32) A) (fun _ M8 => (am_b (g_X9_at ((1 + 1) + 1) 40 (pI (fp σ i 0)) M8) (fun v11 M10 => (if v11 = (2 : Int32) then (am_b (g_X4_gain (16 + 5 * i) M10) (fun _ M13 => (some ((), M13)))) else (some ((), M10))))))) else (am_b (g_X4_spend (16 + 5 * i) (0 : Int32) (1 : Int32) A) (fun _ M16 => (some ((), M16))))) else (if fp σ i 0 < 0 then (some ((), A)) else (am_b (g_X4_spend (16 + 5 * i) (1 : Int32) (2 : Int32) A) (fun _ M19 => (some ((), M19)))))) := by
    unfold g_X8_act
    rw [show 16 + 5 * i + 1 = 17 + 5 * i by omega, c4, g1, am_b_some, c4, g2, am_b_some]
    have l5 : (pI (fa σ i 0) < (5 : Int32)) = (fa σ i 0 < 5) := pi_lt (b := 5) (by omega) (by omega) (by omega) (by omega)
    have e0 : (pI (fa σ i 0) = (0 : Int32)) = (fa σ i 0 = 0) := pi_eq (b := 0) (by omega) (by omega) (by omega) (by omega)
    have l0 : (pI (fp σ i 0) < (0 : Int32)) = (fp σ i 0 < 0) := pi_lt (b := 0) (by omega) (by omega) (by omega) (by omega)
    simp only [l5, e0, l0]
  rw [hst]
  have hfp := @fp_now σ i
  generalize fa σ i 0 = a at *
  by_cases c5 : a < 5
  · rw [if_pos c5]
    have nB : ¬ 0 < ro σ i 3 := fun q => by
      have := hB q
      omega
    rw [if_neg nB] at hfp
    by_cases c0 : a = 0
    · rw [if_pos c0, s_raise 2 1 (k := 2) rfl (by omega), am_b_some, hfp]
      obtain ⟨c, hc⟩ : ∃ c : Nat, ro σ i 0 = c := ⟨(ro σ i 0).toNat, by omega⟩
      obtain ⟨A1, eA1⟩ : ∃ A1, A1 = am_s A (16 + 5 * i + 4) 2 (am_g A (16 + 5 * i + 4) 2 + (1 : Int32)) := ⟨_, rfl⟩
      rw [← eA1, hc, s_at1 _ _ _ (by omega) (by omega) (by omega), am_b_some, Int.toNat_natCast]
      have hk : iv A1 (1 + 1 + 1) c = σ (8 + c) := by
        rw [eA1, iv_c (by omega)]
        exact hkd c (by omega)
      have e8 : (8 + (c : Int)).toNat = 8 + c := by omega
      have f1 : fr [16 + 5 * i, 20 + 5 * i] A A1 := by
        rw [eA1]
        exact fr_s (by simp; omega)
      rw [hk]
      have hkr : -2147483648 ≤ σ (8 + c) ∧ σ (8 + c) < 2147483648 := by
        rw [← hk]
        exact iv_rng _ _ _
      by_cases d : σ (8 + c) = 2
      · rw [if_pos (show pI (σ (8 + c)) = (2 : Int32) by rw [d]; rfl)]
        have kb : am_g A1 (16 + 5 * i) 2 = am_g A (16 + 5 * i) 2 := by rw [eA1, hx_ne (by omega)]
        unfold g_X4_gain
        rw [kb]
        have hg : (if (100 : Int32) - am_g A (16 + 5 * i) 2 < (5 : Int32) then (100 : Int32) - am_g A (16 + 5 * i) 2 else (5 : Int32)) = gI (am_g A (16 + 5 * i) 2) := rfl
        rw [hg, s_raise 4 _ (k := 4) rfl (by omega), am_b_some, am_b_some]
        refine ⟨_, rfl, fr_trans f1 (fr_trans (fr_s (by simp)) (fr_s (by simp; omega))), ?_, ?_, ?_, ?_, ?_, ?_, ?_⟩
        · intro k hk2
          rw [hx_ne (by omega), hx_ne (by omega), eA1, hx_ne (by omega)]
        · rw [hx_ne (by omega), hx_eq, if_pos c0, hc, e8, if_pos d]
        · rw [hx_ne (by omega), hx_ne (by omega), eA1, hx_ne (by omega), if_neg (by omega)]
        · rw [hx_ne (by omega), hx_ne (by omega), eA1, hx_ne (by omega), if_neg (by omega)]
        · rw [hx_ne (by omega), hx_ne (by omega), eA1, hx_eq, if_pos c0]
          rfl
        · rw [hx_ne (by omega), hx_ne (by omega), eA1, hx_ne (by omega)]
        · rw [hx_eq, hx_ne (by omega), eA1, hx_ne (by omega), hc, e8, if_pos ⟨c0, d⟩]
      · rw [if_neg (show ¬ (pI (σ (8 + c)) = (2 : Int32)) from fun q => d ((pi_eq (b := 2) hkr.1 hkr.2 (by omega) (by omega)).mp q))]
        refine ⟨_, rfl, f1, ?_, ?_, ?_, ?_, ?_, ?_, ?_⟩
        · intro k hk2
          rw [eA1, hx_ne (by omega)]
        · rw [eA1, hx_ne (by omega), if_pos c0, hc, e8, if_neg d]
        · rw [eA1, hx_ne (by omega), if_neg (by omega)]
        · rw [eA1, hx_ne (by omega), if_neg (by omega)]
        · rw [eA1, hx_eq, if_pos c0]
          rfl
        · rw [eA1, hx_ne (by omega)]
        · rw [eA1, hx_ne (by omega), hc, e8, if_neg (fun q => d q.2)]
    · rw [if_neg c0]
      unfold g_X4_spend
      rw [s_raise 0 1 (k := 0) rfl (by omega), am_b_some, am_b_some, show (1 : Int32) = pI 1 from rfl, sub_pi]
      have hct : cst a = 1 := by
        unfold cst
        rw [if_pos c5, if_neg c0]
      refine ⟨_, rfl, fr_trans (fr_s (by simp; omega)) (fr_s (by simp)), ?_, ?_, ?_, ?_, ?_, ?_, ?_⟩
      · intro k hk2
        rw [hx_ne (by omega), hx_ne (by omega)]
      · rw [hx_eq, hx_ne (by omega), if_neg c0, if_neg nB, hct]
      · rw [hx_ne (by omega), hx_eq, if_pos (by omega)]
      · rw [hx_ne (by omega), hx_ne (by omega), if_neg (by omega)]
      · rw [hx_ne (by omega), hx_ne (by omega), if_neg c0]
      · rw [hx_ne (by omega), hx_ne (by omega)]
      · rw [hx_ne (by omega), hx_ne (by omega), if_neg (fun q => c0 q.1)]
  · rw [if_neg c5]
    by_cases b : 0 < ro σ i 3
    · rw [if_pos b] at hfp
      rw [if_pos (by omega)]
      refine ⟨A, rfl, fr_refl _ _, fun _ _ => rfl, ?_, ?_, ?_, ?_, rfl, ?_⟩
      · rw [if_neg (by omega), if_pos b]
      · rw [if_neg (by omega)]
      · rw [if_neg (by omega)]
      · rw [if_neg (by omega)]
      · rw [if_neg (by omega)]
    · rw [if_neg b] at hfp
      rw [if_neg (by omega)]
      unfold g_X4_spend
      rw [s_raise 1 1 (k := 1) rfl (by omega), am_b_some, am_b_some, show (2 : Int32) = pI 2 from rfl, sub_pi]
      have hct : cst a = 2 := by
        unfold cst
        rw [if_neg c5]
      refine ⟨_, rfl, fr_trans (fr_s (by simp; omega)) (fr_s (by simp)), ?_, ?_, ?_, ?_, ?_, ?_, ?_⟩
      · intro k hk2
        rw [hx_ne (by omega), hx_ne (by omega)]
      · rw [hx_eq, hx_ne (by omega), if_neg (by omega), if_neg b, hct]
      · rw [hx_ne (by omega), hx_ne (by omega), if_neg (by omega)]
      · rw [hx_ne (by omega), hx_eq, if_pos (by omega)]
        rfl
      · rw [hx_ne (by omega), hx_ne (by omega), if_neg (by omega)]
      · rw [hx_ne (by omega), hx_ne (by omega)]
      · rw [hx_ne (by omega), hx_ne (by omega), if_neg (fun q => by omega)]
end CAC
