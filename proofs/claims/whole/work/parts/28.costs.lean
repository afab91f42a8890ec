/-! waiting and costs, by the model -/
section PR
noncomputable def cif {α : Type} (p : Prop) (u v : α) : α := @ite α p (Classical.propDecidable p) u v
theorem cif_t {α : Type} {p : Prop} {u v : α} (h : p) : cif p u v = u := by unfold cif; rw [if_pos h]
theorem cif_f {α : Type} {p : Prop} {u v : α} (h : ¬ p) : cif p u v = v := by unfold cif; rw [if_neg h]
theorem s_canWait {σ : Nat → Int} {r wo c : Int} {f t : Nat} {M : am_M} (h : MS σ wo M) (hr : 0 ≤ r ∧ r < 5) (hc : 0 ≤ c ∧ c < 40) (hf : f ≤ 1000000) (ht : t < 31) : g_X10_canWait (pI r) (pI c) (pI f) (pI t) M = some (pI (b01 (∀ k : Nat, f ≤ k → k ≤ t → fre σ r wo c k)), M) := by
  have key := lo_for (fun m (s : Int32 × Int32 × am_M) => g_X10_canWait_L6 (pI r) (pI c) (pI t) m s.1 s.2.1 s.2.2) (fun q s => f ≤ q ∧ s = (pI (b01 (∀ k : Nat, f ≤ k → k < q → fre σ r wo c k)), pI (q : Nat), M)) (fun x => x = (pI (b01 (∀ k : Nat, f ≤ k → k ≤ t → fre σ r wo c k)), M)) f (max f (t + 1)) (pI 1, pI f, M) ⟨Nat.le_refl _, by rw [b01_t (p := ∀ k : Nat, f ≤ k → k < f → fre σ r wo c k) (fun k h1 h2 => by omega)]⟩ (by omega) (by unfold am_fu; omega) ?_ ?_
  · obtain ⟨x, h3, rfl⟩ := key
    unfold g_X10_canWait
    dsimp only at h3
    simp only [pi_lit]
    erw [h3]
    rw [am_b_some]
    exact b01_c _
  · rintro m q s hq ⟨hfq, rfl⟩
    left
    refine ⟨(pI (b01 (∀ k : Nat, f ≤ k → k < q + 1 → fre σ r wo c k)), pI (q + 1 : Nat), M), ?_, by omega, rfl⟩
    dsimp only
    rw [g_X10_canWait_L6]
    by_cases h1 : ∀ k : Nat, f ≤ k → k < q → fre σ r wo c k
    · rw [b01_t h1]
      simp (disch := (first | omega | exact (iv_rng _ _ _).1 | exact (iv_rng _ _ _).2)) only [pi_lit, pi_nat, pi_add, pi_sub, pi_mul, pi_neg, pi_le, pi_lt, pi_eq, pi_cn, pi_ci, pi_g, am_b_some, iv_s, iv_ls, lg_s, lg_ls, if_true, if_false, Int.reduceEq, Int.reduceLT, Int.reduceLE, Int.reduceToNat]
      rw [if_neg (by omega), s_isFree h hr hc (by omega), am_b_some]
      by_cases h2 : fre σ r wo c q
      · rw [b01_t h2, b01_t (p := ∀ k : Nat, f ≤ k → k < q + 1 → fre σ r wo c k) (fun k h3 h4 => by
          by_cases h5 : k = q
          · subst h5; exact h2
          · exact h1 k h3 (by omega))]
        rfl
      · rw [b01_f h2, b01_f (p := ∀ k : Nat, f ≤ k → k < q + 1 → fre σ r wo c k) (fun h3 => h2 (h3 q hfq (by omega)))]
        rfl
    · rw [b01_f h1]
      simp (disch := (first | omega | exact (iv_rng _ _ _).1 | exact (iv_rng _ _ _).2)) only [pi_lit, pi_nat, pi_add, pi_sub, pi_mul, pi_neg, pi_le, pi_lt, pi_eq, pi_cn, pi_ci, pi_g, am_b_some, iv_s, iv_ls, lg_s, lg_ls, if_true, if_false, Int.reduceEq, Int.reduceLT, Int.reduceLE, Int.reduceToNat]
      rw [if_neg (by omega), b01_f (p := ∀ k : Nat, f ≤ k → k < q + 1 → fre σ r wo c k) (fun h3 => h1 (fun k h4 h5 => h3 k h4 (by omega)))]
      rfl
  · rintro m s ⟨hfq, rfl⟩
    refine ⟨(pI (b01 (∀ k : Nat, f ≤ k → k < max f (t + 1) → fre σ r wo c k)), M), ?_, ?_⟩
    · dsimp only
      rw [g_X10_canWait_L6]
      simp (disch := (first | omega | exact (iv_rng _ _ _).1 | exact (iv_rng _ _ _).2)) only [pi_lit, pi_nat, pi_add, pi_sub, pi_mul, pi_neg, pi_le, pi_lt, pi_eq, pi_cn, pi_ci, pi_g, am_b_some, iv_s, iv_ls, lg_s, lg_ls, if_true, if_false, Int.reduceEq, Int.reduceLT, Int.reduceLE, Int.reduceToNat]
      rw [if_pos (by omega)]
    · have e : (∀ k : Nat, f ≤ k → k < max f (t + 1) → fre σ r wo c k) ↔ (∀ k : Nat, f ≤ k → k ≤ t → fre σ r wo c k) := ⟨fun x k h1 h2 => x k h1 (by omega), fun x k h1 h2 => x k h1 (by omega)⟩
      rw [b01_iff e]
/-- the least of some numbers, at most a million -/
def mn (g : Int → Int) : Nat → Int
  | 0 => 1000000
  | k + 1 => if g k < mn g k then g k else mn g k
theorem mn_le (g : Int → Int) (k : Nat) : mn g k ≤ 1000000 := by
  induction k with
  | zero => exact Int.le_refl _
  | succ k ih =>
    rw [mn]
    split <;> omega
theorem mn_ge (g : Int → Int) (h : ∀ a, 0 ≤ g a) (k : Nat) : 0 ≤ mn g k := by
  induction k with
  | zero => show (0 : Int) ≤ 1000000; omega
  | succ k ih =>
    rw [mn]
    have := h k
    split <;> omega
noncomputable def thr (σ : Nat → Int) (r wo : Int) (e : Nat) (C : Nat → Int → Int) (t : Nat) (x a : Int) : Int := cif (leg σ r wo x a t ∧ t + tk a ≤ e) (cst a + C (t + tk a).toNat (mvs σ x a)) 1000000
noncomputable def CO (σ : Nat → Int) (r wo : Int) (R : Nat → Int → Prop) (g : Int) (e : Nat) : Nat → Nat → Int → Int
  | 0 => fun t x => if t = e ∧ x = g then 0 else 1000000
  | n + 1 => fun t x => if t + n + 1 = e then cif (R t x) (mn (thr σ r wo e (CO σ r wo R g e n) t x) 7) 1000000 else CO σ r wo R g e n t x
theorem thr_ge {σ : Nat → Int} {r wo : Int} {e : Nat} {C : Nat → Int → Int} (h : ∀ t x, 0 ≤ C t x) (t : Nat) (x a : Int) : 0 ≤ thr σ r wo e C t x a := by
  unfold thr
  by_cases h1 : leg σ r wo x a t ∧ t + tk a ≤ e
  · rw [cif_t h1]
    have := h (t + tk a).toNat (mvs σ x a)
    have := cst_rng a
    omega
  · rw [cif_f h1]; omega
theorem CO_rng (σ : Nat → Int) (r wo : Int) (R : Nat → Int → Prop) (g : Int) (e n t : Nat) (x : Int) : 0 ≤ CO σ r wo R g e n t x ∧ CO σ r wo R g e n t x ≤ 1000000 := by
  induction n generalizing t x with
  | zero =>
    unfold CO
    split <;> omega
  | succ n ih =>
    rw [CO]
    dsimp only
    split
    · by_cases h : R t x
      · rw [cif_t h]
        exact ⟨mn_ge _ (fun a => thr_ge (fun t x => (ih t x).1) t x a) 7, mn_le _ 7⟩
      · rw [cif_f h]; omega
    · exact ih t x
theorem CO_low (σ : Nat → Int) (r wo : Int) (R : Nat → Int → Prop) (g : Int) (e n t : Nat) (x : Int) (h : t + n < e) : CO σ r wo R g e n t x = 1000000 := by
  induction n with
  | zero =>
    unfold CO
    rw [if_neg (by omega)]
  | succ n ih =>
    rw [CO]
    dsimp only
    rw [if_neg (by omega)]
    exact ih (by omega)
def tc (C : Nat → Int → Int) (N : am_M) : Prop := ∀ t x : Nat, t ≤ 30 → x < 40 → iv N 183 (40 * t + x) = C t x
theorem tc_eq {C D : Nat → Int → Int} {N : am_M} (h : tc C N) (e : ∀ t x : Nat, t ≤ 30 → x < 40 → C t x = D t x) : tc D N := fun t x ht hx => by
  rw [h t x ht hx, e t x ht hx]
end PR
