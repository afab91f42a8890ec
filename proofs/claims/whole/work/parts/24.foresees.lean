/-! the model's rows of places and lifts -/
section PV
theorem sg_fr {X : List Nat} {M N : am_M} (h : fr X M N) (hx : 175 ∉ X) : sg N = sg M := funext fun k => fr_i h hx k
theorem sg_s {M : am_M} {a k : Nat} {v : Int32} (h : a ≠ 175) : sg (am_s M a k v) = sg M := sg_fr (X := [a]) (fr_s (by simp)) (by simpa using fun e => h e.symm)
theorem s_foresees {r : Nat} (M : am_M) (hr : r < 5) (h : wr (sg M) r) : ∃ N, g_X10_foresees (pI r) M = some ((), N) ∧ fr [180, 181] M N ∧ (∀ j, iv N 180 j = if 31 * r ≤ j ∧ j < 31 * r + 31 then fp (sg M) r (j - 31 * r) else iv M 180 j) ∧ (∀ j, iv N 181 j = if 31 * r ≤ j ∧ j < 31 * r + 31 then fl (sg M) r (j - 31 * r) else iv M 181 j) := by
  obtain ⟨σ, hσ⟩ : ∃ σ, σ = sg M := ⟨_, rfl⟩
  rw [← hσ] at h ⊢
  have key := lo_for (fun m (s : Int32 × Int32 × Int32 × Int32 × am_M) => g_X10_foresees_L20 (pI r) m s.1 s.2.1 s.2.2.1 s.2.2.2.1 s.2.2.2.2) (fun t s => s.1 = pI (fs σ r t).1 ∧ s.2.1 = pI ((fs σ r t).2.1 : Nat) ∧ s.2.2.1 = pI (fs σ r t).2.2 ∧ s.2.2.2.1 = pI (t : Nat) ∧ fr [180, 181] M s.2.2.2.2 ∧ (∀ j, iv s.2.2.2.2 180 j = if 31 * r ≤ j ∧ j < 31 * r + t then fp σ r (j - 31 * r) else iv M 180 j) ∧ (∀ j, iv s.2.2.2.2 181 j = if 31 * r ≤ j ∧ j < 31 * r + t then fl σ r (j - 31 * r) else iv M 181 j)) (fun x => fr [180, 181] M x.2 ∧ (∀ j, iv x.2 180 j = if 31 * r ≤ j ∧ j < 31 * r + 31 then fp σ r (j - 31 * r) else iv M 180 j) ∧ (∀ j, iv x.2 181 j = if 31 * r ≤ j ∧ j < 31 * r + 31 then fl σ r (j - 31 * r) else iv M 181 j)) 0 31 (pI (ro σ r 0), pI 0, pI (ro σ r 3), pI 0, M) ⟨rfl, rfl, rfl, rfl, fr_refl _ _, fun j => by rw [if_neg (by omega)], fun j => by rw [if_neg (by omega)]⟩ (by omega) (by unfold am_fu; omega) ?_ ?_
  · obtain ⟨⟨u9, N⟩, h3, h4⟩ := key
    refine ⟨N, ?_, h4⟩
    unfold g_X10_foresees
    simp only [pi_lit]
    rw [s_of (r := r) (w := 0) M (by omega) (by omega), am_b_some, s_of (r := r) (w := 3) M (by omega) (by omega), am_b_some, ← hσ]
    dsimp only at h3
    rw [h3, am_b_some]
  · rintro m t ⟨a2, a3, a4, a5, N⟩ ht ⟨e1, e2, e3, e4, hf, hp, hl⟩
    dsimp only at e1 e2 e3 e4 hf hp hl
    subst e1 e2 e3 e4
    have hs : sg N = σ := (sg_fr hf (by decide)).trans hσ.symm
    have hc := fs_cell h t
    have ho := fs_off h t
    have hk := fs_k σ r t
    have hw := fw_rng h (fs σ r t).2.1
    have h1 := h.1
    left
    have hp0 : -2147483648 ≤ fp σ r t ∧ fp σ r t < 2147483648 := by
      unfold fp fa
      split <;> omega
    have hl0 : -2147483648 ≤ fl σ r t ∧ fl σ r t < 2147483648 := by
      unfold fl fa
      split <;> omega
    refine ⟨(pI (fs σ r (t + 1)).1, pI ((fs σ r (t + 1)).2.1 : Nat), pI (fs σ r (t + 1)).2.2, pI (t + 1 : Nat), am_s (am_s N 180 (31 * r + t) (pI (fp σ r t))) 181 (31 * r + t) (pI (fl σ r t))), ?_, rfl, rfl, rfl, rfl, fr_trans hf (fr_trans (fr_s (by simp)) (fr_s (by simp))), fun j => ?_, fun j => ?_⟩
    · dsimp only
      have q1 : g_X10_foresees_L20 (pI r) (m + 1) (pI (fs σ r t).1) (pI ((fs σ r t).2.1 : Nat)) (pI (fs σ r t).2.2) (pI (t : Nat)) N = g_X10_foresees_J47 (g_X10_foresees_L20 (pI r) m) (pI r) (pI (fs σ r t).1) (pI ((fs σ r t).2.1 : Nat)) (pI (fs σ r t).2.2) (pI (t : Nat)) (pI (fw σ r (fs σ r t).2.1)) N := by
        rw [g_X10_foresees_L20]
        simp (disch := (first | omega | exact (iv_rng _ _ _).1 | exact (iv_rng _ _ _).2)) only [pi_lit, pi_nat, pi_add, pi_sub, pi_mul, pi_neg, pi_le, pi_lt, pi_eq, pi_cn, pi_ci, pi_g, am_b_some, iv_s, iv_ls, lg_s, lg_ls, s_of, hs]
        rw [if_neg (by omega)]
        unfold fw
        by_cases h2 : ((fs σ r t).2.1 : Int) < ro σ r 2
        · rw [if_neg (by omega), if_pos h2]
          simp (disch := (first | omega | exact (iv_rng _ _ _).1 | exact (iv_rng _ _ _).2)) only [pi_lit, pi_nat, pi_add, pi_sub, pi_mul, pi_neg, pi_le, pi_lt, pi_eq, pi_cn, pi_ci, pi_g, am_b_some, iv_s, iv_ls, lg_s, lg_ls, s_act, hs]
        · rw [if_pos (by omega), if_neg h2]
      have q2 : g_X10_foresees_J47 (g_X10_foresees_L20 (pI r) m) (pI r) (pI (fs σ r t).1) (pI ((fs σ r t).2.1 : Nat)) (pI (fs σ r t).2.2) (pI (t : Nat)) (pI (fw σ r (fs σ r t).2.1)) N = g_X10_foresees_J73 (g_X10_foresees_L20 (pI r) m) (pI r) (pI (fs σ r t).1) (pI ((fs σ r t).2.1 : Nat)) (pI (fs σ r t).2.2) (pI (t : Nat)) (pI (fw σ r (fs σ r t).2.1)) (pI (31 * (r : Int) + t)) (pI (fp σ r t)) N := by
        unfold g_X10_foresees_J47 fp fa
        simp (disch := (first | omega | exact (iv_rng _ _ _).1 | exact (iv_rng _ _ _).2)) only [pi_lit, pi_nat, pi_add, pi_sub, pi_mul, pi_neg, pi_le, pi_lt, pi_eq, pi_cn, pi_ci, pi_g, am_b_some, iv_s, iv_ls, lg_s, lg_ls]
        by_cases h2 : (fs σ r t).2.2 ≤ 0
        · rw [if_pos h2, if_neg (by omega)]
        · rw [if_neg h2, if_pos (by omega)]
      have q3 : g_X10_foresees_J73 (g_X10_foresees_L20 (pI r) m) (pI r) (pI (fs σ r t).1) (pI ((fs σ r t).2.1 : Nat)) (pI (fs σ r t).2.2) (pI (t : Nat)) (pI (fw σ r (fs σ r t).2.1)) (pI (31 * (r : Int) + t)) (pI (fp σ r t)) N = g_X10_foresees_J99 (g_X10_foresees_L20 (pI r) m) (pI r) (pI (fs σ r t).1) (pI ((fs σ r t).2.1 : Nat)) (pI (fs σ r t).2.2) (pI (t : Nat)) (pI (fw σ r (fs σ r t).2.1)) (pI (31 * (r : Int) + t)) (pI (fl σ r t)) (am_s N 180 (31 * r + t) (pI (fp σ r t))) := by
        unfold g_X10_foresees_J73 fl fa
        simp (disch := (first | omega | exact (iv_rng _ _ _).1 | exact (iv_rng _ _ _).2)) only [pi_lit, pi_nat, pi_add, pi_sub, pi_mul, pi_neg, pi_le, pi_lt, pi_eq, pi_cn, pi_ci, pi_g, am_b_some, iv_s, iv_ls, lg_s, lg_ls]
        rw [show (31 * (r : Int) + t).toNat = 31 * r + t by omega]
        by_cases h2 : fw σ r (fs σ r t).2.1 < 5
        · rw [if_pos h2, if_pos h2]
        · rw [if_neg h2, if_neg h2]
      rw [q1, q2, q3]
      unfold g_X10_foresees_J99
      have h9 : sg (am_s (am_s N 180 (31 * r + t) (pI (fp σ r t))) 181 (31 * r + t) (pI (fl σ r t))) = σ := by
        rw [sg_s (by decide), sg_s (by decide), hs]
      have h8 := tk_pos (fw σ r (fs σ r t).2.1)
      rw [pi_ci (by omega) (by omega) (by omega), pi_cn (by omega) (by omega), show (31 * (r : Int) + t).toNat = 31 * r + t by omega, s_takes _ (by omega) (by omega), am_b_some]
      simp (disch := (first | omega | exact (iv_rng _ _ _).1 | exact (iv_rng _ _ _).2)) only [pi_lit, pi_nat, pi_add, pi_sub, pi_mul, pi_neg, pi_le, pi_lt, pi_eq, pi_cn, pi_ci, pi_g, am_b_some, iv_s, iv_ls, lg_s, lg_ls]
      rw [fs]
      by_cases h2 : (fs σ r t).2.2 + 1 = tk (fw σ r (fs σ r t).2.1)
      · rw [if_pos h2, if_pos h2, s_mmoved _ hc.1 hc.2 hw.1 hw.2, am_b_some, h9]
        rfl
      · rw [if_neg h2, if_neg h2]
        rfl
    · dsimp only
      rw [iv_s hl0.1 hl0.2, if_neg (by omega), iv_s hp0.1 hp0.2, hp]
      by_cases h2 : j = 31 * r + t
      · rw [if_pos ⟨rfl, h2⟩, if_pos (by omega), h2, show 31 * r + t - 31 * r = t by omega]
      · rw [if_neg (by omega)]
        by_cases h3 : 31 * r ≤ j ∧ j < 31 * r + t
        · rw [if_pos h3, if_pos (by omega)]
        · rw [if_neg h3, if_neg (by omega)]
    · dsimp only
      rw [iv_s hl0.1 hl0.2, iv_s hp0.1 hp0.2, hl]
      by_cases h2 : j = 31 * r + t
      · rw [if_pos ⟨rfl, h2⟩, if_pos (by omega), h2, show 31 * r + t - 31 * r = t by omega]
      · rw [if_neg (by omega), if_neg (by omega)]
        by_cases h3 : 31 * r ≤ j ∧ j < 31 * r + t
        · rw [if_pos h3, if_pos (by omega)]
        · rw [if_neg h3, if_neg (by omega)]
  · rintro m ⟨a2, a3, a4, a5, N⟩ ⟨e1, e2, e3, e4, hf, hp, hl⟩
    dsimp only at e1 e2 e3 e4 hf hp hl
    subst e4
    refine ⟨((), N), ?_, hf, hp, hl⟩
    dsimp only
    rw [g_X10_foresees_L20]
    simp (disch := (first | omega | exact (iv_rng _ _ _).1 | exact (iv_rng _ _ _).2)) only [pi_lit, pi_nat, pi_add, pi_sub, pi_mul, pi_neg, pi_le, pi_lt, pi_eq, pi_cn, pi_ci, pi_g, am_b_some, iv_s, iv_ls, lg_s, lg_ls]
    rw [if_pos (by omega)]
theorem s_allForeseen (M : am_M) (h6 : 0 ≤ sg M 6) (h5 : sg M 6 ≤ 5) (h : ∀ r : Nat, r < sg M 6 → wr (sg M) r) : ∃ N, g_X10_allForeseen M = some ((), N) ∧ fr [180, 181] M N ∧ (∀ r t : Nat, r < sg M 6 → t < 31 → iv N 180 (31 * r + t) = fp (sg M) r t ∧ iv N 181 (31 * r + t) = fl (sg M) r t) := by
  obtain ⟨σ, hσ⟩ : ∃ σ, σ = sg M := ⟨_, rfl⟩
  rw [← hσ] at h h5 h6 ⊢
  have key := lo_for (fun m (s : Int32 × am_M) => g_X10_allForeseen_L2 m s.1 s.2) (fun k s => s.1 = pI (k : Nat) ∧ fr [180, 181] M s.2 ∧ (∀ r t : Nat, r < k → t < 31 → iv s.2 180 (31 * r + t) = fp σ r t ∧ iv s.2 181 (31 * r + t) = fl σ r t)) (fun x => fr [180, 181] M x.2 ∧ (∀ r t : Nat, r < σ 6 → t < 31 → iv x.2 180 (31 * r + t) = fp σ r t ∧ iv x.2 181 (31 * r + t) = fl σ r t)) 0 (σ 6).toNat (pI 0, M) ⟨rfl, fr_refl _ _, fun r t h1 => by omega⟩ (by omega) (by unfold am_fu; omega) ?_ ?_
  · obtain ⟨⟨u9, N⟩, h3, h4⟩ := key
    refine ⟨N, ?_, h4⟩
    unfold g_X10_allForeseen
    dsimp only at h3
    rw [pi_lit]
    erw [h3]
    rw [am_b_some]
  · rintro m k ⟨a, N⟩ hk ⟨e1, hf, hp⟩
    dsimp only at e1 hf hp
    subst e1
    have hs : sg N = σ := (sg_fr hf (by decide)).trans hσ.symm
    obtain ⟨O, g1, g2, g3, g4⟩ := s_foresees (r := k) N (by omega) (by rw [hs]; exact h k (by omega))
    left
    refine ⟨(pI (k + 1 : Nat), O), ?_, rfl, fr_trans hf g2, fun r t h1 h2 => ?_⟩
    · dsimp only
      rw [g_X10_allForeseen_L2]
      have h7 : iv N 175 6 = σ 6 := by rw [← hs]; rfl
      simp (disch := (first | omega | exact (iv_rng _ _ _).1 | exact (iv_rng _ _ _).2)) only [pi_lit, pi_nat, pi_add, pi_sub, pi_mul, pi_neg, pi_le, pi_lt, pi_eq, pi_cn, pi_ci, pi_g, am_b_some, iv_s, iv_ls, lg_s, lg_ls]
      rw [show ((6 : Int).toNat) = 6 from rfl, h7, if_neg (by omega), g1, am_b_some]
      rfl
    · dsimp only
      rw [g3, g4, hs]
      by_cases h3 : r = k
      · subst h3
        rw [if_pos (by omega), if_pos (by omega), show 31 * r + t - 31 * r = t by omega]
        exact ⟨rfl, rfl⟩
      · rw [if_neg (by omega), if_neg (by omega)]
        exact hp r t (by omega) h2
  · rintro m ⟨a, N⟩ ⟨e1, hf, hp⟩
    dsimp only at e1 hf hp
    subst e1
    have hs : sg N = σ := (sg_fr hf (by decide)).trans hσ.symm
    refine ⟨((), N), ?_, hf, fun r t h1 h2 => hp r t (by omega) h2⟩
    dsimp only
    rw [g_X10_allForeseen_L2]
    have h7 : iv N 175 6 = σ 6 := by rw [← hs]; rfl
    simp (disch := (first | omega | exact (iv_rng _ _ _).1 | exact (iv_rng _ _ _).2)) only [pi_lit, pi_nat, pi_add, pi_sub, pi_mul, pi_neg, pi_le, pi_lt, pi_eq, pi_cn, pi_ci, pi_g, am_b_some, iv_s, iv_ls, lg_s, lg_ls]
    rw [show ((6 : Int).toNat) = 6 from rfl, h7, if_pos (by omega)]
end PV
