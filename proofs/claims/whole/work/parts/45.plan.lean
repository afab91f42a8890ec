/-! a plan of the class against a robot's row of the model -/
section QD
def al (σ : Nat → Int) (r : Int) : Nat → Int := fun k => ac σ r k
theorem ck_lc (σ : Nat → Int) (r : Int) (k : Nat) : ck σ r k = lc σ (ro σ r 0) (al σ r) k := by
  induction k with
  | zero => rfl
  | succ k ih => rw [ck, lc, ih]; rfl
theorem pk_tl (σ : Nat → Int) (r : Int) (k : Nat) : pk σ r k = lt (al σ r) k := by
  induction k with
  | zero => rfl
  | succ k ih =>
    have := tk_pos (ac σ r k)
    rw [pk, lt, ih]
    unfold al
    omega
/-- the plan at p says, at clock C, what the row says of robot r -/
def PR (σ : Nat → Int) (r : Int) (p : Nat) (C : Int) (M : am_M) : Prop := ∃ (b n : Nat), ro σ r 2 = n ∧ iv M p 3 = b + lt (al σ r) n ∧ iv M p 3 ≤ 30 ∧ 0 ≤ iv M p 2 ∧ (if 0 < n then C - iv M p 2 = b + ro σ r 3 else b ≤ C - iv M p 2) ∧ (∀ k j : Nat, k < n → j < tk (ac σ r k) → iv M (p + 1) (b + lt (al σ r) k + j) = ac σ r k ∧ iv M (p + 2) (b + lt (al σ r) k + j) = if j = 0 then ck σ r k else 4 - ac σ r k) ∧ iv M (p + 2) (b + lt (al σ r) n) = ck σ r n ∧ ∀ i : Nat, i < b → 0 ≤ iv M (p + 2) i → (i : Int) + tk (iv M (p + 1) i) ≤ b
theorem PR_fr {σ : Nat → Int} {r : Int} {p : Nat} {C : Int} {M N : am_M} (h : PR σ r p C M) {X : List Nat} (hf : fr X M N) (h0 : p ∉ X) (h1 : p + 1 ∉ X) (h2 : p + 2 ∉ X) : PR σ r p C N := by
  obtain ⟨b, n, q1, q2, q3, q4, q5, q6, q7, q8⟩ := h
  refine ⟨b, n, q1, by rw [fr_i hf h0]; exact q2, by rw [fr_i hf h0]; exact q3, by rw [fr_i hf h0]; exact q4, by rw [fr_i hf h0]; exact q5, fun k j hk hj => by rw [fr_i hf h1, fr_i hf h2]; exact q6 k j hk hj, by rw [fr_i hf h2]; exact q7, fun i hi => by rw [fr_i hf h1, fr_i hf h2]; exact q8 i hi⟩
/-- where the plan is read at a time -/
theorem PR_tick {σ : Nat → Int} {r : Int} {p : Nat} {C : Int} {M : am_M} (h : PR σ r p C M) (hw : wr σ r) (t : Nat) : ∃ i : Nat, (i : Int) = (if C + t - iv M p 2 < iv M p 3 then C + t - iv M p 2 else iv M p 3) ∧ i ≤ 30 ∧ iv M (p + 2) i = fp σ r t ∧ (C + t - iv M p 2 < iv M p 3 → iv M (p + 1) i = fa σ r t) ∧ (iv M p 3 ≤ C + t - iv M p 2 → fa σ r t = 0) := by
  obtain ⟨b, n, q1, q2, q3, q4, q5, q6, q7, q8⟩ := h
  obtain ⟨v1, v2⟩ := fs_inv hw t
  have hoff := fs_off hw t
  have hu := hw.2.2.2.1
  have hu2 := hw.2.2.2.2.1
  obtain ⟨k, ek⟩ : ∃ k, k = (fs σ r t).2.1 := ⟨_, rfl⟩
  obtain ⟨j, ej⟩ : ∃ j, j = (fs σ r t).2.2 := ⟨_, rfl⟩
  obtain ⟨u, eu⟩ : ∃ u, u = ro σ r 3 := ⟨_, rfl⟩
  rw [← ek, ← ej, ← eu, q1] at v1 v2
  rw [← ej] at hoff
  rw [← eu, q1] at hu2
  rw [← eu] at hu q5
  rw [pk_tl] at v1 v2
  rw [show ((n : Nat) : Int).toNat = n by omega] at v2
  have hfa : fa σ r t = if (k : Int) < n then ac σ r k else 0 := by unfold fa fw; rw [← ek, q1]
  by_cases hk : (k : Int) < n
  · obtain ⟨a1, a2, a3, a4⟩ := v1 hk
    have hm := lt_mono (al σ r) (k := k + 1) (n := n) (by omega)
    have hm2 : lt (al σ r) (k + 1) = lt (al σ r) k + (tk (ac σ r k)).toNat := rfl
    rw [if_pos hk] at hfa
    rw [if_pos (by omega)] at q5
    have hi := q6 k j.toNat (by omega) (by omega)
    have e1 : C + t - iv M p 2 = (b + lt (al σ r) k + j.toNat : Nat) := by omega
    refine ⟨b + lt (al σ r) k + j.toNat, ?_, by omega, ?_, fun _ => by rw [hi.1, hfa], fun h5 => by omega⟩
    · rw [if_pos (by omega)]; exact e1.symm
    · rw [hi.2]
      unfold fp
      rw [← ej, hfa, a1]
      by_cases hj : 0 < j
      · rw [if_neg (by omega), if_pos hj]
      · rw [if_pos (by omega), if_neg hj]
  · obtain ⟨a1, a2, a3⟩ := v2 (by omega)
    rw [if_neg hk] at hfa
    refine ⟨b + lt (al σ r) n, ?_, by omega, ?_, fun h5 => ?_, fun _ => hfa⟩
    · rw [if_neg (by split at q5 <;> omega), q2]; omega
    · rw [q7]
      unfold fp
      rw [← ej, a1, if_neg (by omega)]
    · exact absurd h5 (by split at q5 <;> omega)
theorem fp_rng {σ : Nat → Int} {r : Int} (hw : wr σ r) (t : Nat) : -2 ≤ fp σ r t ∧ fp σ r t < 40 := by
  have h1 := fs_cell hw t
  have h2 := fw_rng hw (fs σ r t).2.1
  unfold fp fa
  split <;> omega
theorem fa_rng {σ : Nat → Int} {r : Int} (hw : wr σ r) (t : Nat) : 0 ≤ fa σ r t ∧ fa σ r t < 7 := fw_rng hw _
theorem PR_S {σ : Nat → Int} {r : Int} {p : Nat} {C : Int} {M : am_M} (h : PR σ r p C M) (hw : wr σ r) : 0 ≤ iv M p 2 ∧ iv M p 2 ≤ C ∧ 0 ≤ iv M p 3 ∧ iv M p 3 ≤ 30 := by
  obtain ⟨b, n, q1, q2, q3, q4, q5, q6, q7, q8⟩ := h
  have hu := hw.2.2.2.1
  refine ⟨q4, ?_, by omega, q3⟩
  split at q5 <;> omega
theorem s_placeAt {σ : Nat → Int} {r : Int} {p : Nat} {C : Int} {t : Nat} {M : am_M} (h : PR σ r p C M) (hw : wr σ r) (hC : C ≤ 1000) (ht : t ≤ 40) : g_X2_placeAt p (pI (C + t)) M = some (pI (fp σ r t), M) := by
  obtain ⟨i, e1, e2, e3, e4, e5⟩ := PR_tick h hw t
  obtain ⟨s1, s2, s3, s4⟩ := PR_S h hw
  unfold g_X2_placeAt
  have ex : (if pI (0 : Int) < (if pI (iv M p 3) < pI (C + t) - pI (iv M p 2) then pI (iv M p 3) else pI (C + t) - pI (iv M p 2)) then (if pI (iv M p 3) < pI (C + t) - pI (iv M p 2) then pI (iv M p 3) else pI (C + t) - pI (iv M p 2)) else pI 0) = pI i := by
    simp (disch := (first | omega | exact (iv_rng _ _ _).1 | exact (iv_rng _ _ _).2)) only [pi_lit, pi_nat, pi_add, pi_sub, pi_mul, pi_neg, pi_le, pi_lt, pi_eq, pi_cn, pi_ci, pi_g, am_b_some, iv_s, iv_ls, lg_s, lg_ls]
    by_cases h1 : iv M p 3 < C + t - iv M p 2
    · rw [if_pos h1]
      rw [if_neg (by omega)] at e1
      simp (disch := (first | omega | exact (iv_rng _ _ _).1 | exact (iv_rng _ _ _).2)) only [pi_lit, pi_nat, pi_add, pi_sub, pi_mul, pi_neg, pi_le, pi_lt, pi_eq, pi_cn, pi_ci, pi_g, am_b_some, iv_s, iv_ls, lg_s, lg_ls]
      by_cases h2 : 0 < iv M p 3
      · rw [if_pos h2, e1]
      · rw [if_neg h2, e1, show iv M p 3 = 0 by omega]
    · rw [if_neg h1]
      have e1' : (i : Int) = C + t - iv M p 2 := by split at e1 <;> omega
      simp (disch := (first | omega | exact (iv_rng _ _ _).1 | exact (iv_rng _ _ _).2)) only [pi_lit, pi_nat, pi_add, pi_sub, pi_mul, pi_neg, pi_le, pi_lt, pi_eq, pi_cn, pi_ci, pi_g, am_b_some, iv_s, iv_ls, lg_s, lg_ls]
      by_cases h2 : 0 < C + t - iv M p 2
      · rw [if_pos h2, e1']
      · rw [if_neg h2, e1', show C + t - iv M p 2 = 0 by omega]
  simp only [pi_g]
  rw [show (0 : Int32) = pI 0 from rfl, ex, s_at1 _ _ _ (by omega) (by omega) (by omega), am_b_some, Int.toNat_natCast, e3]
theorem s_actionAt {σ : Nat → Int} {r : Int} {p : Nat} {C : Int} {t : Nat} {M : am_M} (h : PR σ r p C M) (hw : wr σ r) (hC : C ≤ 1000) (ht : t ≤ 40) : g_X2_actionAt p (pI (C + t)) M = some (pI (fa σ r t), M) := by
  obtain ⟨i, e1, e2, e3, e4, e5⟩ := PR_tick h hw t
  obtain ⟨s1, s2, s3, s4⟩ := PR_S h hw
  unfold g_X2_actionAt
  simp (disch := (first | omega | exact (iv_rng _ _ _).1 | exact (iv_rng _ _ _).2)) only [pi_lit, pi_nat, pi_add, pi_sub, pi_mul, pi_neg, pi_le, pi_lt, pi_eq, pi_cn, pi_ci, pi_g, am_b_some, iv_s, iv_ls, lg_s, lg_ls, if_true, if_false, Int.reduceEq, Int.reduceLT, Int.reduceLE, Int.reduceToNat]
  by_cases h1 : iv M p 3 ≤ C + t - iv M p 2
  · rw [if_pos h1, e5 h1]
  · rw [if_neg h1]
    rw [if_pos (by omega)] at e1
    rw [← e1, s_at1 _ _ _ (by omega) (by omega) (by omega), am_b_some, Int.toNat_natCast, e4 (by omega)]
/-- one tick of a robot as it is foreseen -/
theorem fp_wait {σ : Nat → Int} {r : Int} (hw : wr σ r) {t : Nat} (h : fa σ r t = 0) : 0 ≤ fp σ r t ∧ fp σ r (t + 1) = fp σ r t := by
  obtain ⟨v1, v2⟩ := fs_inv hw t
  have hc := fs_cell hw t
  have h0 : (fs σ r t).2.2 = 0 := by
    by_cases hk : ((fs σ r t).2.1 : Int) < ro σ r 2
    · have h2 := (v1 hk).2
      unfold fa fw at h
      rw [if_pos hk] at h
      rw [h, tk_zero] at h2
      omega
    · exact (v2 (by omega)).2.1
  have h1 : fw σ r (fs σ r t).2.1 = 0 := h
  have e : fs σ r (t + 1) = ((fs σ r t).1, (fs σ r t).2.1 + 1, 0) := by
    rw [fs, h0, h1, tk_zero, if_pos (by omega), mvs_zero]
  unfold fp
  rw [e, h0]
  dsimp only
  rw [if_neg (by omega), if_neg (by omega)]
  exact ⟨hc.1, rfl⟩
theorem fp_move {σ : Nat → Int} {r : Int} (hw : wr σ r) {t : Nat} (h : 1 ≤ fa σ r t ∧ fa σ r t < 5) : 0 ≤ fp σ r t ∧ fp σ r (t + 1) = nb (fp σ r t) (fa σ r t) ∧ 0 ≤ fp σ r (t + 1) := by
  obtain ⟨v1, v2⟩ := fs_inv hw t
  have hc := fs_cell hw t
  have hc1 := fs_cell hw (t + 1)
  have h0 : (fs σ r t).2.2 = 0 := by
    by_cases hk : ((fs σ r t).2.1 : Int) < ro σ r 2
    · have h2 := (v1 hk).2
      unfold fa fw at h
      rw [if_pos hk] at h
      rw [tk_one h.2] at h2
      omega
    · exact (v2 (by omega)).2.1
  have h1 : fw σ r (fs σ r t).2.1 = fa σ r t := rfl
  have e : fs σ r (t + 1) = (mvs σ (fs σ r t).1 (fa σ r t), (fs σ r t).2.1 + 1, 0) := by
    rw [fs, h0, h1, tk_one h.2, if_pos (by omega)]
  have em : mvs σ (fs σ r t).1 (fa σ r t) = nb (fs σ r t).1 (fa σ r t) := by
    unfold mvs
    rw [if_neg (by omega), if_pos h.2]
  rw [e, em] at hc1
  dsimp only at hc1
  have e1 : fp σ r t = (fs σ r t).1 := by unfold fp; rw [h0, if_neg (by omega)]
  have e2 : fp σ r (t + 1) = nb (fs σ r t).1 (fa σ r t) := by unfold fp; rw [e, em]; dsimp only; rw [if_neg (by omega)]
  rw [e1, e2]
  exact ⟨hc.1, rfl, hc1.1⟩
theorem fp_ride {σ : Nat → Int} {r : Int} (hw : wr σ r) {t : Nat} (h : 5 ≤ fa σ r t) (h2 : 0 ≤ fp σ r t) : fp σ r (t + 1) < 0 := by
  have hc := fs_off hw t
  have h1 : fw σ r (fs σ r t).2.1 = fa σ r t := rfl
  have h0 : (fs σ r t).2.2 = 0 := by
    unfold fp at h2
    by_cases q : 0 < (fs σ r t).2.2
    · rw [if_pos q] at h2; omega
    · omega
  unfold fp
  have e : fs σ r (t + 1) = ((fs σ r t).1, (fs σ r t).2.1, (fs σ r t).2.2 + 1) := by
    rw [fs, h0, h1, tk_ride h, if_neg (by omega)]
  unfold fa
  rw [e, h0]
  dsimp only
  rw [if_pos (by omega), h1]
  omega
end QD
