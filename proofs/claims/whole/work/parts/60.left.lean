/-! what is left of a plan -/
section QT
theorem pr_open {σ : Nat → Int} {r : Int} {p : Nat} {C : Int} {M : am_M} (h : PR σ r p C M) (hw : wr σ r) : ∃ (b n u : Nat), ro σ r 2 = n ∧ ro σ r 3 = u ∧ (0 < n → (u : Int) < tk (ac σ r 0)) ∧ (n = 0 → u = 0) ∧ iv M p 3 = b + lt (al σ r) n ∧ b + lt (al σ r) n ≤ 30 ∧ 0 ≤ iv M p 2 ∧ (0 < n → C - iv M p 2 = b + u) ∧ (n = 0 → b ≤ C - iv M p 2) ∧ (∀ k j : Nat, k < n → j < tk (ac σ r k) → iv M (p + 1) (b + lt (al σ r) k + j) = ac σ r k ∧ iv M (p + 2) (b + lt (al σ r) k + j) = if j = 0 then ck σ r k else 4 - ac σ r k) ∧ ∀ i : Nat, i < b → 0 ≤ iv M (p + 2) i → (i : Int) + tk (iv M (p + 1) i) ≤ b := by
  obtain ⟨b, n, q1, q2, q3, q4, q5, q6, q7, q8⟩ := h
  obtain ⟨w1, w2, w3, w4, w5, w6⟩ := hw
  refine ⟨b, n, (ro σ r 3).toNat, q1, by omega, fun hn => ?_, fun hn => by omega, q2, by omega, q4, fun hn => ?_, fun hn => ?_, q6, q8⟩
  · have := tk_pos (ac σ r 0)
    by_cases h0 : 0 < ro σ r 3
    · have h5 := w5 h0
      rw [tk_ride h5.2.1]
      omega
    · omega
  · rw [if_pos hn] at q5; omega
  · rw [if_neg (by omega)] at q5; exact q5
theorem s_ticksLeft {σ : Nat → Int} {r : Int} {p : Nat} {C : Int} {M : am_M} (h : PR σ r p C M) (hw : wr σ r) (hC : C ≤ 1000) : g_X2_ticksLeft p (pI C) M = some (pI (pk σ r (ro σ r 2).toNat - ro σ r 3), M) := by
  obtain ⟨s1, s2, s3, s4⟩ := PR_S h hw
  obtain ⟨b, n, u, e1, e2, e3, e4, e5, e6, e7, e8, e9, _⟩ := pr_open h hw
  have hu := lt_ge (al σ r) n
  have hlt : 0 < n → (u : Int) ≤ lt (al σ r) n := fun hn => by
    have h1 := lt_mono (al σ r) (k := 1) (n := n) hn
    have h2 : lt (al σ r) 1 = 0 + (tk (ac σ r 0)).toNat := rfl
    have := e3 hn
    omega
  have hz : n = 0 → lt (al σ r) n = 0 := fun hn => by subst hn; rfl
  unfold g_X2_ticksLeft
  rw [e1, e2, show ((n : Nat) : Int).toNat = n by omega, pk_tl]
  simp (disch := (first | omega | exact (iv_rng _ _ _).1 | exact (iv_rng _ _ _).2)) only [pi_lit, pi_nat, pi_add, pi_sub, pi_mul, pi_neg, pi_le, pi_lt, pi_eq, pi_cn, pi_ci, pi_g, am_b_some, iv_s, iv_ls, lg_s, lg_ls, if_true, if_false, Int.reduceEq, Int.reduceLT, Int.reduceLE, Int.reduceToNat]
  by_cases hn : 0 < n
  · have a1 := e8 hn
    have a2 := hlt hn
    by_cases c : 0 < iv M p 2 + iv M p 3 - C
    · rw [if_pos c, show iv M p 2 + iv M p 3 - C = (lt (al σ r) n : Int) - u by omega]
    · rw [if_neg c, show (lt (al σ r) n : Int) - u = 0 by omega]
  · have a1 := e9 (by omega)
    have a2 := e4 (by omega)
    have a3 := hz (by omega)
    rw [if_neg (by omega), show (lt (al σ r) n : Int) - u = 0 by omega]
theorem s_mticksLeft {σ : Nat → Int} {r : Nat} {P : am_M} (hs : sg P = σ) (hw : wr σ r) (hr : r < 5) : g_X10_ticksLeft (pI r) P = some (pI (pk σ r (ro σ r 2).toNat - ro σ r 3), P) := by
  have h2 := hw.1
  have h3 := hw.2.2.2.1
  have h5 := hw.2.2.2.2.1
  obtain ⟨s, g1, e1⟩ := lo_for (fun m (s : Int32 × Int32 × am_M) => g_X10_ticksLeft_L10 (pI r) m s.1 s.2.1 s.2.2) (fun q s => s = (pI (pk σ r q - ro σ r 3), pI (q : Nat), P)) (fun s => s = (pI (pk σ r (ro σ r 2).toNat - ro σ r 3), P)) 0 (ro σ r 2).toNat (pI (-ro σ r 3), pI 0, P) (by rw [show -ro σ r 3 = pk σ r 0 - ro σ r 3 from (by show -ro σ r 3 = 0 - ro σ r 3; omega)]; rfl) (by omega) (by unfold am_fu; omega) (by
    rintro m q s hq rfl
    left
    refine ⟨_, ?_, rfl⟩
    dsimp only
    rw [g_X10_ticksLeft_L10, pk]
    have ha := hw.2.1 q (by omega)
    simp (disch := (first | omega | exact (iv_rng _ _ _).1 | exact (iv_rng _ _ _).2)) only [pi_lit, pi_nat, pi_add, pi_sub, pi_mul, pi_neg, pi_le, pi_lt, pi_eq, pi_cn, pi_ci, pi_g, am_b_some, iv_s, iv_ls, lg_s, lg_ls, if_true, if_false, Int.reduceEq, Int.reduceLT, Int.reduceLE, Int.reduceToNat, s_of, s_act, s_takes, hs]
    rw [if_neg (by omega), show pk σ r q - ro σ r 3 + tk (ac σ r q) = pk σ r q + tk (ac σ r q) - ro σ r 3 by omega]
    rfl) (by
    rintro m s rfl
    refine ⟨_, ?_, rfl⟩
    dsimp only
    rw [g_X10_ticksLeft_L10]
    simp (disch := (first | omega | exact (iv_rng _ _ _).1 | exact (iv_rng _ _ _).2)) only [pi_lit, pi_nat, pi_add, pi_sub, pi_mul, pi_neg, pi_le, pi_lt, pi_eq, pi_cn, pi_ci, pi_g, am_b_some, iv_s, iv_ls, lg_s, lg_ls, if_true, if_false, Int.reduceEq, Int.reduceLT, Int.reduceLE, Int.reduceToNat, s_of, hs]
    rw [if_pos (by omega)])
  dsimp only at g1
  unfold g_X10_ticksLeft
  rw [show (3 : Int32) = pI 3 from rfl, s_of P (by omega) (by omega), am_b_some, hs, pi_neg, show (0 : Int32) = pI 0 from rfl, g1, e1, am_b_some]
/-- the costs of the actions from k0 on, below k -/
def csm (σ : Nat → Int) (r : Int) (k0 : Nat) : Nat → Int
  | 0 => 0
  | k + 1 => csm σ r k0 k + if k0 ≤ k then cst (ac σ r k) else 0
theorem csm_rng (σ : Nat → Int) (r : Int) (k0 k : Nat) : 0 ≤ csm σ r k0 k ∧ csm σ r k0 k ≤ 2 * k := by
  induction k with
  | zero => exact ⟨Int.le_refl _, by show (0 : Int) ≤ 2 * (0 : Nat); omega⟩
  | succ k ih =>
    rw [csm]
    have := cst_rng (ac σ r k)
    split <;> omega
theorem csm_low (σ : Nat → Int) (r : Int) {k0 k : Nat} (h : k ≤ k0) : csm σ r k0 k = 0 := by
  induction k with
  | zero => rfl
  | succ k ih => rw [csm, ih (by omega), if_neg (by omega)]; rfl
theorem s_mcostLeft {σ : Nat → Int} {r : Nat} {P : am_M} (hs : sg P = σ) (hw : wr σ r) (hr : r < 5) : g_X10_costLeft (pI r) P = some (pI (csm σ r (if 0 < ro σ r 3 then 1 else 0) (ro σ r 2).toNat), P) := by
  have h2 := hw.1
  have h3 := hw.2.2.2.1
  have h5 := hw.2.2.2.2.1
  have key : ∀ k0 : Nat, (k0 : Int) ≤ ro σ r 2 → g_X10_costLeft_L16 (pI r) am_fu (pI 0) (pI k0) P = some (pI (csm σ r k0 (ro σ r 2).toNat), P) := fun k0 hk0 => by
    obtain ⟨s, g1, e1⟩ := lo_for (fun m (s : Int32 × Int32 × am_M) => g_X10_costLeft_L16 (pI r) m s.1 s.2.1 s.2.2) (fun q s => k0 ≤ q ∧ s = (pI (csm σ r k0 q), pI (q : Nat), P)) (fun s => s = (pI (csm σ r k0 (ro σ r 2).toNat), P)) k0 (ro σ r 2).toNat (pI 0, pI k0, P) ⟨Nat.le_refl _, by rw [csm_low σ r (Nat.le_refl k0)]⟩ (by omega) (by unfold am_fu; omega) (by
      rintro m q s hq ⟨hq0, rfl⟩
      left
      refine ⟨_, ?_, by omega, rfl⟩
      dsimp only
      rw [g_X10_costLeft_L16, csm]
      have ha := hw.2.1 q (by omega)
      simp (disch := (first | omega | exact (iv_rng _ _ _).1 | exact (iv_rng _ _ _).2)) only [pi_lit, pi_nat, pi_add, pi_sub, pi_mul, pi_neg, pi_le, pi_lt, pi_eq, pi_cn, pi_ci, pi_g, am_b_some, iv_s, iv_ls, lg_s, lg_ls, if_true, if_false, Int.reduceEq, Int.reduceLT, Int.reduceLE, Int.reduceToNat, s_of, s_act, s_costs, hs]
      rw [if_neg (by omega), if_pos hq0]
      rfl) (by
      rintro m s ⟨hq0, rfl⟩
      refine ⟨_, ?_, rfl⟩
      dsimp only
      rw [g_X10_costLeft_L16]
      simp (disch := (first | omega | exact (iv_rng _ _ _).1 | exact (iv_rng _ _ _).2)) only [pi_lit, pi_nat, pi_add, pi_sub, pi_mul, pi_neg, pi_le, pi_lt, pi_eq, pi_cn, pi_ci, pi_g, am_b_some, iv_s, iv_ls, lg_s, lg_ls, if_true, if_false, Int.reduceEq, Int.reduceLT, Int.reduceLE, Int.reduceToNat, s_of, hs]
      rw [if_pos (by omega)])
    dsimp only at g1
    rw [g1, e1]
  unfold g_X10_costLeft
  by_cases h : 0 < ro σ r 3
  · rw [mlift_t hs hr h, am_b_some, if_neg ci1, if_pos h]
    exact (congrArg (fun z => am_b z _) (key 1 (by omega))).trans rfl
  · rw [mlift_f hs hr h, am_b_some, if_pos ci0, if_neg h]
    exact (congrArg (fun z => am_b z _) (key 0 (by omega))).trans rfl
/-- where a tick of a plan stands -/
def at_ (α : Nat → Int) (b n i k j : Nat) : Prop := k ≤ n ∧ i = b + lt α k + j ∧ (k < n → (j : Int) < tk (α k)) ∧ (k = n → j = 0)
theorem at_succ {α : Nat → Int} {b n i k j : Nat} (h : at_ α b n i k j) (hk : k < n) : at_ α b n (i + 1) (if (j : Int) + 1 = tk (α k) then k + 1 else k) (if (j : Int) + 1 = tk (α k) then 0 else j + 1) := by
  obtain ⟨h1, h2, h3, h4⟩ := h
  have h5 := h3 hk
  have h6 := tk_pos (α k)
  by_cases c : (j : Int) + 1 = tk (α k)
  · rw [if_pos c, if_pos c]
    have e : lt α (k + 1) = lt α k + (tk (α k)).toNat := rfl
    refine ⟨by omega, by omega, fun hk2 => ?_, fun _ => rfl⟩
    have := tk_pos (α (k + 1))
    omega
  · rw [if_neg c, if_neg c]
    exact ⟨h1, by omega, fun _ => by omega, fun e => by omega⟩
end QT
