/-! a plan's rows against a list of actions -/
section QB
def lc (σ : Nat → Int) (c : Int) (α : Nat → Int) : Nat → Int
  | 0 => c
  | k + 1 => mvs σ (lc σ c α k) (α k)
def lt (α : Nat → Int) : Nat → Nat
  | 0 => 0
  | k + 1 => lt α k + (tk (α k)).toNat
def lco (α : Nat → Int) : Nat → Int
  | 0 => 0
  | k + 1 => lco α k + cst (α k)
def RW (σ : Nat → Int) (p : Nat) (c : Int) (α : Nat → Int) (n : Nat) (M : am_M) : Prop := iv M p 3 = lt α n ∧ iv M p 4 = lco α n ∧ (∀ k j : Nat, k < n → j < tk (α k) → iv M (p + 1) (lt α k + j) = α k ∧ iv M (p + 2) (lt α k + j) = if j = 0 then lc σ c α k else 4 - α k) ∧ iv M (p + 2) (lt α n) = lc σ c α n
theorem lc_congr {σ : Nat → Int} {c : Int} {α β : Nat → Int} {n : Nat} (h : ∀ k, k < n → α k = β k) : lc σ c α n = lc σ c β n := by
  induction n with
  | zero => rfl
  | succ n ih => rw [lc, lc, ih (fun k hk => h k (by omega)), h n (by omega)]
theorem lt_congr {α β : Nat → Int} {n : Nat} (h : ∀ k, k < n → α k = β k) : lt α n = lt β n := by
  induction n with
  | zero => rfl
  | succ n ih => rw [lt, lt, ih (fun k hk => h k (by omega)), h n (by omega)]
theorem lco_congr {α β : Nat → Int} {n : Nat} (h : ∀ k, k < n → α k = β k) : lco α n = lco β n := by
  induction n with
  | zero => rfl
  | succ n ih => rw [lco, lco, ih (fun k hk => h k (by omega)), h n (by omega)]
theorem lt_mono (α : Nat → Int) {k n : Nat} (h : k ≤ n) : lt α k ≤ lt α n := by
  induction n with
  | zero => have : k = 0 := by omega
            subst this; exact Nat.le_refl _
  | succ n ih =>
    by_cases h1 : k = n + 1
    · subst h1; exact Nat.le_refl _
    · rw [lt]; have := ih (by omega); omega
theorem lt_ge (α : Nat → Int) (n : Nat) : n ≤ lt α n := by
  induction n with
  | zero => exact Nat.zero_le _
  | succ n ih => rw [lt]; have := tk_pos (α n); omega
theorem lco_rng (α : Nat → Int) (n : Nat) : 0 ≤ lco α n ∧ lco α n ≤ 2 * n := by
  induction n with
  | zero => exact ⟨Int.le_refl _, by show (0 : Int) ≤ 2 * (0 : Nat); omega⟩
  | succ n ih => rw [lco]; have := cst_rng (α n); omega
theorem RW_congr {σ : Nat → Int} {p : Nat} {c : Int} {α β : Nat → Int} {n : Nat} {M : am_M} (h : ∀ k, k < n → α k = β k) (hw : RW σ p c α n M) : RW σ p c β n M := by
  obtain ⟨h1, h2, h3, h4⟩ := hw
  refine ⟨by rw [h1, lt_congr h], by rw [h2, lco_congr h], fun k j hk hj => ?_, by rw [← lt_congr h, ← lc_congr h, h4]⟩
  rw [← h k hk] at hj ⊢
  rw [← lt_congr (fun i hi => h i (by omega)), ← lc_congr (fun i hi => h i (by omega))]
  exact h3 k j hk hj
theorem RW_fr {σ : Nat → Int} {p : Nat} {c : Int} {α : Nat → Int} {n : Nat} {M N : am_M} (hw : RW σ p c α n M) {X : List Nat} (hf : fr X M N) (h0 : p ∉ X) (h1 : p + 1 ∉ X) (h2 : p + 2 ∉ X) : RW σ p c α n N := by
  obtain ⟨q1, q2, q3, q4⟩ := hw
  refine ⟨by rw [fr_i hf h0]; exact q1, by rw [fr_i hf h0]; exact q2, fun k j hk hj => ?_, by rw [fr_i hf h2]; exact q4⟩
  rw [fr_i hf h1, fr_i hf h2]
  exact q3 k j hk hj
/-- an action is added to a plan -/
theorem s_addAction {σ : Nat → Int} {p : Nat} {c : Int} {α : Nat → Int} {n : Nat} {M : am_M} (hp : p < 1000) (hw : RW σ p c α n M) (ha : 0 ≤ α n ∧ α n < 7) (hT : lt α (n + 1) ≤ 30) (hc : -1 ≤ lc σ c α (n + 1) ∧ lc σ c α (n + 1) < 40) : ∃ N, g_X2_addAction p (pI (α n)) (pI (lc σ c α (n + 1))) M = some ((), N) ∧ fr [p, p + 1, p + 2] M N ∧ (∀ k, k ≠ 3 → k ≠ 4 → iv N p k = iv M p k) ∧ RW σ p c α (n + 1) N := by
  obtain ⟨a, ea⟩ : ∃ a, a = α n := ⟨_, rfl⟩
  obtain ⟨d, ed⟩ : ∃ d, d = lc σ c α (n + 1) := ⟨_, rfl⟩
  obtain ⟨T, eT⟩ : ∃ T, T = lt α n := ⟨_, rfl⟩
  have e1 : lt α (n + 1) = T + (tk a).toNat := by rw [lt, ← ea, ← eT]
  have htp := tk_pos a
  have hcs := cst_rng a
  have hlc := lco_rng α n
  have hln := lt_ge α n
  obtain ⟨w1, w2, w3, w4⟩ := hw
  rw [← ea] at ha ⊢
  rw [← ed] at hc ⊢
  rw [e1] at hT
  rw [← eT] at w1 w4 hln
  have key := lo_for (fun m (s : Int32 × am_M) => g_X2_addAction_L20 p (pI a) (pI d) (pI (tk a)) m s.1 s.2) (fun k s => 1 ≤ k ∧ s.1 = pI (k : Nat) ∧ fr [p, p + 1, p + 2] M s.2 ∧ (∀ i, i ≠ 3 → iv s.2 p i = iv M p i) ∧ iv s.2 p 3 = (T : Int) + k - 1 ∧ (∀ i, iv s.2 (p + 1) i = if T ≤ i ∧ i + 1 < T + k then a else iv M (p + 1) i) ∧ (∀ i, iv s.2 (p + 2) i = if T < i ∧ i < T + k then (if (i : Int) = T + tk a then d else 4 - a) else iv M (p + 2) i)) (fun s => fr [p, p + 1, p + 2] M s.2 ∧ (∀ i, i ≠ 3 → iv s.2 p i = iv M p i) ∧ iv s.2 p 3 = (T : Int) + tk a ∧ (∀ i, iv s.2 (p + 1) i = if T ≤ i ∧ (i : Int) < T + tk a then a else iv M (p + 1) i) ∧ (∀ i, iv s.2 (p + 2) i = if T < i ∧ (i : Int) ≤ T + tk a then (if (i : Int) = T + tk a then d else 4 - a) else iv M (p + 2) i)) 1 (1 + (tk a).toNat) (pI 1, M) ⟨Nat.le_refl _, rfl, fr_refl _ _, fun i _ => rfl, by rw [w1]; omega, fun i => by rw [if_neg (by omega)], fun i => by rw [if_neg (by omega)]⟩ (by omega) (by unfold am_fu; omega) ?_ ?_
  · obtain ⟨⟨u, N⟩, g1, f1, p1, p2, p3, p4⟩ := key
    dsimp only at g1 f1 p1 p2 p3 p4
    refine ⟨am_s N p 4 (pI (lco α n + cst a)), ?_, fr_trans f1 (fr_s (by simp)), fun k h3 h4 => ?_, ?_, ?_, ?_, ?_⟩
    · unfold g_X2_addAction
      have g2 : g_X9_ticksOf (pI a) M = some (pI (tk a), M) := s_ticksOf M (by omega) (by omega)
      have g3 : g_X9_costOf (pI a) N = some (pI (cst a), N) := s_costOf N (by omega) (by omega)
      have hN4 := p1 4 (by omega)
      simp (disch := (first | omega | exact (iv_rng _ _ _).1 | exact (iv_rng _ _ _).2)) only [pi_lit, pi_nat, pi_add, pi_sub, pi_mul, pi_neg, pi_le, pi_lt, pi_eq, pi_cn, pi_ci, pi_g, am_b_some, iv_s, iv_ls, lg_s, lg_ls, if_true, if_false, Int.reduceEq, Int.reduceLT, Int.reduceLE, Int.reduceToNat, g2, w1]
      rw [if_pos (by omega), g1, am_b_some]
      simp (disch := (first | omega | exact (iv_rng _ _ _).1 | exact (iv_rng _ _ _).2)) only [pi_lit, pi_nat, pi_add, pi_sub, pi_mul, pi_neg, pi_le, pi_lt, pi_eq, pi_cn, pi_ci, pi_g, am_b_some, iv_s, iv_ls, lg_s, lg_ls, if_true, if_false, Int.reduceEq, Int.reduceLT, Int.reduceLE, Int.reduceToNat, g3, hN4, w2]
    · simp (disch := (first | omega | exact (iv_rng _ _ _).1 | exact (iv_rng _ _ _).2)) only [pi_lit, pi_nat, pi_add, pi_sub, pi_mul, pi_neg, pi_le, pi_lt, pi_eq, pi_cn, pi_ci, pi_g, am_b_some, iv_s, iv_ls, lg_s, lg_ls]
      rw [if_neg (by omega), p1 k h3]
    · simp (disch := (first | omega | exact (iv_rng _ _ _).1 | exact (iv_rng _ _ _).2)) only [pi_lit, pi_nat, pi_add, pi_sub, pi_mul, pi_neg, pi_le, pi_lt, pi_eq, pi_cn, pi_ci, pi_g, am_b_some, iv_s, iv_ls, lg_s, lg_ls]
      rw [if_neg (by omega), p2, e1]; omega
    · simp (disch := (first | omega | exact (iv_rng _ _ _).1 | exact (iv_rng _ _ _).2)) only [pi_lit, pi_nat, pi_add, pi_sub, pi_mul, pi_neg, pi_le, pi_lt, pi_eq, pi_cn, pi_ci, pi_g, am_b_some, iv_s, iv_ls, lg_s, lg_ls]
      rw [if_pos (by simp), lco, ← ea]
    · intro k j hk hj
      simp (disch := (first | omega | exact (iv_rng _ _ _).1 | exact (iv_rng _ _ _).2)) only [pi_lit, pi_nat, pi_add, pi_sub, pi_mul, pi_neg, pi_le, pi_lt, pi_eq, pi_cn, pi_ci, pi_g, am_b_some, iv_s, iv_ls, lg_s, lg_ls]
      rw [if_neg (by omega), if_neg (by omega), p3, p4]
      by_cases hkn : k = n
      · subst hkn
        rw [← ea] at hj ⊢
        rw [← eT]
        rw [if_pos (by omega)]
        refine ⟨rfl, ?_⟩
        by_cases hj0 : j = 0
        · subst hj0
          rw [if_neg (by omega), if_pos rfl]
          exact w4
        · rw [if_pos (by omega), if_neg (by omega), if_neg hj0]
      · have hm := lt_mono α (k := k + 1) (n := n) (by omega)
        rw [lt, ← eT] at hm
        have := w3 k j (by omega) hj
        rw [if_neg (by omega), if_neg (by omega)]
        exact this
    · simp (disch := (first | omega | exact (iv_rng _ _ _).1 | exact (iv_rng _ _ _).2)) only [pi_lit, pi_nat, pi_add, pi_sub, pi_mul, pi_neg, pi_le, pi_lt, pi_eq, pi_cn, pi_ci, pi_g, am_b_some, iv_s, iv_ls, lg_s, lg_ls]
      rw [if_neg (by omega), p4, e1, if_pos (by omega), if_pos (by omega), ed]
  · rintro m k ⟨b, N⟩ hk ⟨hk1, q1, q2, q3, q4, q5, q6⟩
    dsimp only at q1 q2 q3 q4 q5 q6
    subst q1
    left
    obtain ⟨v, ev⟩ : ∃ v, v = (if (k : Int) = tk a then d else 4 - a) := ⟨_, rfl⟩
    have hv : -100 ≤ v ∧ v < 100 := by rw [ev]; split <;> omega
    have hbase : ∀ (v : Int), (-100 ≤ v ∧ v < 100) → (fr [p, p + 1, p + 2] M (am_s (am_s (am_s N (p + 1) (T + k - 1) (pI a)) p 3 (pI ((T : Int) + k))) (p + 2) (T + k) (pI v))) := fun v _ => fr_trans q2 (fr_trans (fr_s (by simp)) (fr_trans (fr_s (by simp)) (fr_s (by simp))))
    refine ⟨(pI (k + 1 : Nat), am_s (am_s (am_s N (p + 1) (T + k - 1) (pI a)) p 3 (pI ((T : Int) + k))) (p + 2) (T + k) (pI v)), ?_, by omega, rfl, hbase _ hv, fun i hi => ?_, ?_, fun i => ?_, fun i => ?_⟩
    · dsimp only
      have c1 : ¬ (pI (tk a) < pI (k : Nat)) := by rw [pi_lt (by omega) (by omega) (by omega) (by omega)]; omega
      have c2 : am_g N p 3 = pI ((T : Int) + k - 1) := by rw [pi_g, q4]
      have c3 : am_g (am_s N (p + 1) (T + k - 1) (pI a)) p 3 = pI ((T : Int) + k - 1) := by rw [pi_g, iv_s (by omega) (by omega), if_neg (by omega), q4]
      have c4 : am_g (am_s (am_s N (p + 1) (T + k - 1) (pI a)) p 3 (pI ((T : Int) + k))) p 3 = pI ((T : Int) + k) := by rw [pi_g, iv_s (by omega) (by omega), if_pos ⟨rfl, rfl⟩]
      have c5 : pI ((T : Int) + k - 1) + (1 : Int32) = pI ((T : Int) + k) := by rw [show (1 : Int32) = pI 1 from rfl, pi_add, show ((T : Int) + k - 1 + 1) = (T : Int) + k by omega]
      have c6 : pI (k : Nat) + (1 : Int32) = pI (k + 1 : Nat) := by rw [show (1 : Int32) = pI 1 from rfl, pi_add]; rfl
      have c7 : (pI (k : Nat) = pI (tk a)) = ((k : Int) = tk a) := pi_eq (by omega) (by omega) (by omega) (by omega)
      have c8 : (-1 : Int32) - (pI a - (5 : Int32)) = pI (4 - a) := by rw [show (5 : Int32) = pI 5 from rfl, show (-1 : Int32) = pI (-1) from rfl, pi_sub, pi_sub, show (-1 : Int) - (a - 5) = 4 - a by omega]
      have c9 : ∀ v X, g_X9_put (p + 2) 31 (pI ((T : Int) + k)) v X = some ((), am_s X (p + 2) (T + k) v) := fun v X => by
        rw [s_put _ _ _ _ (by omega) (by omega) (by omega), show ((T : Int) + k).toNat = T + k by omega]
      have c10 : ∀ v X, g_X9_put (p + 1) 30 (pI ((T : Int) + k - 1)) v X = some ((), am_s X (p + 1) (T + k - 1) v) := fun v X => by
        rw [s_put _ _ _ _ (by omega) (by omega) (by omega), show ((T : Int) + k - 1).toNat = T + k - 1 by omega]
      rw [g_X2_addAction_L20]
      simp only [if_neg c1, c2, c10, am_b_some, c3, c5, c4, c6, c7, c8, c9]
      by_cases h1 : (k : Int) = tk a
      · rw [if_pos h1] at ev
        rw [if_pos h1, ev]
      · rw [if_neg h1] at ev
        rw [if_neg h1, ev]
    · dsimp only
      simp (disch := (first | omega | exact (iv_rng _ _ _).1 | exact (iv_rng _ _ _).2)) only [pi_lit, pi_nat, pi_add, pi_sub, pi_mul, pi_neg, pi_le, pi_lt, pi_eq, pi_cn, pi_ci, pi_g, am_b_some, iv_s, iv_ls, lg_s, lg_ls]
      rw [if_neg (by omega), if_neg (by omega), if_neg (by omega), q3 i hi]
    · dsimp only
      simp (disch := (first | omega | exact (iv_rng _ _ _).1 | exact (iv_rng _ _ _).2)) only [pi_lit, pi_nat, pi_add, pi_sub, pi_mul, pi_neg, pi_le, pi_lt, pi_eq, pi_cn, pi_ci, pi_g, am_b_some, iv_s, iv_ls, lg_s, lg_ls]
      rw [if_neg (by omega), if_pos (by simp)]
      omega
    · dsimp only
      simp (disch := (first | omega | exact (iv_rng _ _ _).1 | exact (iv_rng _ _ _).2)) only [pi_lit, pi_nat, pi_add, pi_sub, pi_mul, pi_neg, pi_le, pi_lt, pi_eq, pi_cn, pi_ci, pi_g, am_b_some, iv_s, iv_ls, lg_s, lg_ls]
      rw [if_neg (by omega), if_neg (by omega)]
      by_cases h1 : i = T + k - 1
      · rw [if_pos (by simpa using h1), if_pos (by omega)]
      · rw [if_neg (by omega), q5]
        by_cases h2 : T ≤ i ∧ i + 1 < T + k
        · rw [if_pos h2, if_pos (by omega)]
        · rw [if_neg h2, if_neg (by omega)]
    · dsimp only
      simp (disch := (first | omega | exact (iv_rng _ _ _).1 | exact (iv_rng _ _ _).2)) only [pi_lit, pi_nat, pi_add, pi_sub, pi_mul, pi_neg, pi_le, pi_lt, pi_eq, pi_cn, pi_ci, pi_g, am_b_some, iv_s, iv_ls, lg_s, lg_ls]
      by_cases h1 : i = T + k
      · rw [if_pos (by simpa using h1), if_pos (by omega)]
        rw [ev]
        by_cases h2 : (k : Int) = tk a
        · rw [if_pos h2, if_pos (by omega)]
        · rw [if_neg h2, if_neg (by omega)]
      · rw [if_neg (by omega), if_neg (by omega), if_neg (by omega), q6]
        by_cases h2 : T < i ∧ i < T + k
        · rw [if_pos h2, if_pos (show T < i ∧ i < T + (k + 1) by omega)]
        · rw [if_neg h2, if_neg (show ¬ (T < i ∧ i < T + (k + 1)) by omega)]
  · rintro m ⟨b, N⟩ ⟨hk1, q1, q2, q3, q4, q5, q6⟩
    dsimp only at q1 q2 q3 q4 q5 q6
    subst q1
    refine ⟨((), N), ?_, q2, q3, by rw [q4]; omega, fun i => ?_, fun i => ?_⟩
    · dsimp only
      rw [g_X2_addAction_L20]
      simp (disch := (first | omega | exact (iv_rng _ _ _).1 | exact (iv_rng _ _ _).2)) only [pi_lit, pi_nat, pi_add, pi_sub, pi_mul, pi_neg, pi_le, pi_lt, pi_eq, pi_cn, pi_ci, pi_g, am_b_some, iv_s, iv_ls, lg_s, lg_ls, if_true, if_false, Int.reduceEq, Int.reduceLT, Int.reduceLE, Int.reduceToNat]
      rw [if_pos (by omega)]
    · dsimp only
      rw [q5]
      by_cases h2 : T ≤ i ∧ (i : Int) < T + tk a
      · rw [if_pos h2, if_pos (by omega)]
      · rw [if_neg h2, if_neg (by omega)]
    · dsimp only
      rw [q6]
      by_cases h2 : T < i ∧ (i : Int) ≤ T + tk a
      · rw [if_pos h2, if_pos (show T < i ∧ i < T + (1 + (tk a).toNat) by omega)]
      · rw [if_neg h2, if_neg (show ¬ (T < i ∧ i < T + (1 + (tk a).toNat)) by omega)]
end QB
