/-! the walk along best actions: that there is one -/
section PO
theorem RT_mono {σ : Nat → Int} {r wo : Int} {f : Nat} {c : Int} {n m t : Nat} {x : Int} (h : RT σ r wo f c n t x) (hm : n ≤ m) : RT σ r wo f c m t x := by
  induction m with
  | zero =>
    have : n = 0 := by omega
    subst this
    exact h
  | succ m ih =>
    by_cases h1 : n ≤ m
    · rw [RT]; exact Or.inl (ih h1)
    · have : n = m + 1 := by omega
      subst this
      exact h
theorem RT_step {σ : Nat → Int} {r wo : Int} {f : Nat} {c : Int} {n t : Nat} {x a : Int} (h : RT σ r wo f c n t x) (hx : 0 ≤ x ∧ x < 40) (ha : 0 ≤ a ∧ a < 7) (hl : leg σ r wo x a t) (hf : f ≤ t) (hn : t < f + n) : RT σ r wo f c n (t + tk a).toNat (mvs σ x a) := by
  have key : ∀ m, RT σ r wo f c m t x → RT σ r wo f c (t - f) t x := by
    intro m
    induction m with
    | zero =>
      intro h1
      exact RT_mono h1 (by omega)
    | succ m ih =>
      intro h1
      rw [RT] at h1
      rcases h1 with h1 | ⟨y, a2, hy, h1, ha2, hl2, ht2, hx2⟩
      · exact ih h1
      · have := tk_pos a2
        have h3 : RT σ r wo f c (m + 1) t x := by rw [RT]; exact Or.inr ⟨y, a2, hy, h1, ha2, hl2, ht2, hx2⟩
        exact RT_mono h3 (by omega)
  have h2 := key n h
  refine RT_mono (n := (t - f) + 1) ?_ (by omega)
  rw [RT]
  right
  have := tk_pos a
  exact ⟨x, a, hx, by rw [show f + (t - f) = t by omega]; exact h2, ha, by rw [show f + (t - f) = t by omega]; exact hl, by omega, rfl⟩
theorem RT_rng {σ : Nat → Int} (hwl : wl σ) {r wo : Int} {f : Nat} {c : Int} (hc : 0 ≤ c ∧ c < 40) {n t : Nat} {x : Int} (h : RT σ r wo f c n t x) : f ≤ t ∧ 0 ≤ x ∧ x < 40 := by
  induction n generalizing t x with
  | zero =>
    obtain ⟨rfl, rfl⟩ := h
    exact ⟨Nat.le_refl _, hc⟩
  | succ n ih =>
    rw [RT] at h
    rcases h with h | ⟨y, a, hy, h1, ha, hl, ht, hx⟩
    · exact ih h
    · have := tk_pos a
      have := mvs_rng hwl hy ha
      have := hl.1
      exact ⟨by omega, by omega, by omega⟩
theorem CO_stable {σ : Nat → Int} {r wo : Int} {R : Nat → Int → Prop} {g : Int} {e n m t : Nat} {x : Int} (hnm : n ≤ m) (ht : e ≤ t + n) : CO σ r wo R g e m t x = CO σ r wo R g e n t x := by
  induction m with
  | zero =>
    have : n = 0 := by omega
    subst this; rfl
  | succ m ih =>
    by_cases h1 : n = m + 1
    · rw [h1]
    · rw [CO]
      dsimp only
      rw [if_neg (by omega)]
      exact ih (by omega)
theorem mn_att {g : Int → Int} {k : Nat} (h : mn g k < 1000000) : ∃ a : Nat, a < k ∧ g a = mn g k := by
  induction k with
  | zero => exact absurd h (by show ¬ ((1000000 : Int) < 1000000); omega)
  | succ k ih =>
    rw [mn] at h ⊢
    by_cases h1 : g k < mn g k
    · rw [if_pos h1]; exact ⟨k, by omega, rfl⟩
    · rw [if_neg h1] at h ⊢
      obtain ⟨a, ha, e⟩ := ih h
      exact ⟨a, by omega, e⟩
theorem mn_low {g : Int → Int} {k : Nat} {a : Nat} (h : a < k) : mn g k ≤ g a := by
  induction k with
  | zero => omega
  | succ k ih =>
    rw [mn]
    by_cases h1 : a = k
    · subst h1; split <;> omega
    · have := ih (by omega)
      split <;> omega
/-- the cost at a time and a cell is the least over the actions -/
theorem CO_eq {σ : Nat → Int} {r wo : Int} {R : Nat → Int → Prop} {g : Int} {e f t : Nat} {x : Int} (hf : f ≤ t) (ht : t < e) (hR : R t x) : CO σ r wo R g e (e - f) t x = mn (thr σ r wo e (CO σ r wo R g e (e - f)) t x) 7 := by
  have h1 : CO σ r wo R g e (e - f) t x = CO σ r wo R g e ((e - 1 - t) + 1) t x := CO_stable (by omega) (by omega)
  rw [h1, CO]
  dsimp only
  rw [if_pos (by omega), cif_t hR, thr_congr (D := CO σ r wo R g e (e - f)) (fun t' x' h2 => (CO_stable (by omega) (by omega)).symm)]
theorem CO_end {σ : Nat → Int} {r wo : Int} {R : Nat → Int → Prop} {g : Int} {e n : Nat} {x : Int} : CO σ r wo R g e n e x = if x = g then 0 else 1000000 := by
  rw [CO_stable (n := 0) (by omega) (by omega)]
  unfold CO
  by_cases h : x = g
  · rw [if_pos ⟨rfl, h⟩, if_pos h]
  · rw [if_neg (fun h2 => h h2.2), if_neg h]
/-- where the cost is finite there is a best action, and the cost behind it is finite -/
theorem bst_ex {σ : Nat → Int} {r wo : Int} {R : Nat → Int → Prop} {g : Int} {e f t : Nat} {x : Int} (hf : f ≤ t) (ht : t < e) (hR : R t x) (hC : CO σ r wo R g e (e - f) t x < 1000000) : ∃ a : Nat, a < 7 ∧ bst σ r wo e (CO σ r wo R g e (e - f)) t x a := by
  have h1 := CO_eq (σ := σ) (r := r) (wo := wo) (g := g) hf ht hR
  rw [h1] at hC
  obtain ⟨a, ha, h2⟩ := mn_att hC
  refine ⟨a, ha, ?_⟩
  rw [← h1] at h2 hC
  unfold thr at h2
  by_cases h3 : leg σ r wo x a t ∧ t + tk a ≤ e
  · rw [cif_t h3] at h2
    exact ⟨h3.2, h3.1, h2⟩
  · rw [cif_f h3] at h2
    omega
/-- where the goal is reached, the cost from the start is small -/
theorem CO_fin {σ : Nat → Int} (hwl : wl σ) {r wo : Int} {g c : Int} (hc : 0 ≤ c ∧ c < 40) {e f : Nat} (hfe : f ≤ e) (he : e ≤ 30) {n : Nat} {t : Nat} {x : Int} (h : RT σ r wo f c n t x) (ht : t ≤ e) (hn : n ≤ 30 - f) (hC : CO σ r wo (RT σ r wo f c (30 - f)) g e (e - f) t x ≤ 2 * ((e : Int) - t)) : CO σ r wo (RT σ r wo f c (30 - f)) g e (e - f) f c ≤ 2 * ((e : Int) - f) := by
  induction n generalizing t x with
  | zero =>
    obtain ⟨rfl, rfl⟩ := h
    exact hC
  | succ n ih =>
    rw [RT] at h
    rcases h with h | ⟨y, a, hy, h1, ha, hl, ht2, hx⟩
    · exact ih h ht (by omega) hC
    · have htk := tk_pos a
      refine ih h1 (by omega) (by omega) ?_
      rw [CO_eq (by omega) (by omega) (RT_mono h1 (by omega))]
      have h3 := mn_low (g := thr σ r wo e (CO σ r wo (RT σ r wo f c (30 - f)) g e (e - f)) (f + n) y) (k := 7) (a := a.toNat) (by omega)
      have h4 : thr σ r wo e (CO σ r wo (RT σ r wo f c (30 - f)) g e (e - f)) (f + n) y (a.toNat : Int) = cst a + CO σ r wo (RT σ r wo f c (30 - f)) g e (e - f) t x := by
        rw [show ((a.toNat : Nat) : Int) = a by omega]
        unfold thr
        rw [cif_t ⟨hl, by omega⟩, hx, show (((f + n : Nat) : Int) + tk a).toNat = t by omega]
      have h5 := cst_rng a
      omega
-- the first number with a property
noncomputable def fb (p : Nat → Prop) : Nat → Nat → Nat
  | 0, k => k
  | m + 1, k => cif (p k) k (fb p m (k + 1))
theorem fb_first {p : Nat → Prop} {a : Nat} (ha : p a) : ∀ (m k : Nat), k ≤ a → a < k + m → p (fb p m k) ∧ k ≤ fb p m k ∧ fb p m k ≤ a ∧ ∀ j, k ≤ j → j < fb p m k → ¬ p j := by
  intro m
  induction m with
  | zero => intro k h1 h2; omega
  | succ m ih =>
    intro k h1 h2
    rw [fb]
    by_cases h3 : p k
    · rw [cif_t h3]
      exact ⟨h3, Nat.le_refl _, h1, fun j h4 h5 => by omega⟩
    · rw [cif_f h3]
      have h4 : k ≠ a := fun e => h3 (e ▸ ha)
      obtain ⟨i1, i2, i3, i4⟩ := ih (k + 1) (by omega) (by omega)
      refine ⟨i1, by omega, i3, fun j h5 h6 => ?_⟩
      by_cases h7 : j = k
      · subst h7; exact h3
      · exact i4 j (by omega) h6
/-- the best action at a time and a cell: the lowest one -/
noncomputable def ba (σ : Nat → Int) (r wo : Int) (e : Nat) (C : Nat → Int → Int) (t : Nat) (x : Int) : Nat := fb (fun a => bst σ r wo e C t x a) 7 0
theorem ba_spec {σ : Nat → Int} {r wo : Int} {e : Nat} {C : Nat → Int → Int} {t : Nat} {x : Int} (h : ∃ a : Nat, a < 7 ∧ bst σ r wo e C t x a) : ba σ r wo e C t x < 7 ∧ bst σ r wo e C t x (ba σ r wo e C t x) ∧ ∀ j : Nat, j < ba σ r wo e C t x → ¬ bst σ r wo e C t x j := by
  obtain ⟨a, ha, hb⟩ := h
  obtain ⟨h1, h2, h3, h4⟩ := fb_first (p := fun a => bst σ r wo e C t x a) hb 7 0 (by omega) (by omega)
  exact ⟨by unfold ba; omega, h1, fun j hj => h4 j (by omega) hj⟩
/-- the walk: (time, cell) behind i actions -/
noncomputable def ws (σ : Nat → Int) (r wo : Int) (e : Nat) (C : Nat → Int → Int) (f : Nat) (c : Int) : Nat → Nat × Int
  | 0 => (f, c)
  | i + 1 => if (ws σ r wo e C f c i).1 < e then (((ws σ r wo e C f c i).1 + tk (ba σ r wo e C (ws σ r wo e C f c i).1 (ws σ r wo e C f c i).2)).toNat, mvs σ (ws σ r wo e C f c i).2 (ba σ r wo e C (ws σ r wo e C f c i).1 (ws σ r wo e C f c i).2)) else ws σ r wo e C f c i
noncomputable def wa (σ : Nat → Int) (r wo : Int) (e : Nat) (C : Nat → Int → Int) (f : Nat) (c : Int) (i : Nat) : Nat := ba σ r wo e C (ws σ r wo e C f c i).1 (ws σ r wo e C f c i).2
/-- what holds at each step of the walk -/
theorem ws_inv {σ : Nat → Int} (hwl : wl σ) {r wo : Int} {g c : Int} (hc : 0 ≤ c ∧ c < 40) {e f : Nat} (hfe : f ≤ e) (he : e ≤ 30) (hst : CO σ r wo (RT σ r wo f c (30 - f)) g e (e - f) f c < 1000000) (i : Nat) : RT σ r wo f c (30 - f) (ws σ r wo e (CO σ r wo (RT σ r wo f c (30 - f)) g e (e - f)) f c i).1 (ws σ r wo e (CO σ r wo (RT σ r wo f c (30 - f)) g e (e - f)) f c i).2 ∧ (ws σ r wo e (CO σ r wo (RT σ r wo f c (30 - f)) g e (e - f)) f c i).1 ≤ e ∧ CO σ r wo (RT σ r wo f c (30 - f)) g e (e - f) (ws σ r wo e (CO σ r wo (RT σ r wo f c (30 - f)) g e (e - f)) f c i).1 (ws σ r wo e (CO σ r wo (RT σ r wo f c (30 - f)) g e (e - f)) f c i).2 < 1000000 := by
  obtain ⟨C, hC⟩ : ∃ C, C = CO σ r wo (RT σ r wo f c (30 - f)) g e (e - f) := ⟨_, rfl⟩
  rw [← hC] at hst ⊢
  induction i with
  | zero =>
    refine ⟨RT_mono (n := 0) ⟨rfl, rfl⟩ (by omega), hfe, hst⟩
  | succ i ih =>
    rw [ws]
    generalize ws σ r wo e C f c i = s at ih
    obtain ⟨t, x⟩ := s
    dsimp only at ih ⊢
    obtain ⟨i1, i2, i3⟩ := ih
    have hrg := RT_rng hwl hc i1
    by_cases h1 : t < e
    · rw [if_pos h1]
      dsimp only
      have hex := bst_ex (σ := σ) (r := r) (wo := wo) (g := g) hrg.1 h1 i1 (by rw [← hC]; exact i3)
      rw [← hC] at hex
      obtain ⟨b1, b2, b3⟩ := ba_spec hex
      have h2 := RT_step (a := (ba σ r wo e C t x : Int)) i1 hrg.2 (by omega) b2.2.1 hrg.1 (by omega)
      have h3 := b2.1
      have h4 := b2.2.2
      have h5 := cst_rng (ba σ r wo e C t x : Int)
      exact ⟨h2, by omega, by omega⟩
    · rw [if_neg h1]
      exact ⟨i1, i2, i3⟩
/-- there is a best action at each step before the end -/
theorem wa_best {σ : Nat → Int} (hwl : wl σ) {r wo : Int} {g c : Int} (hc : 0 ≤ c ∧ c < 40) {e f : Nat} (hfe : f ≤ e) (he : e ≤ 30) (hst : CO σ r wo (RT σ r wo f c (30 - f)) g e (e - f) f c < 1000000) (i : Nat) (hi : (ws σ r wo e (CO σ r wo (RT σ r wo f c (30 - f)) g e (e - f)) f c i).1 < e) : wa σ r wo e (CO σ r wo (RT σ r wo f c (30 - f)) g e (e - f)) f c i < 7 ∧ bst σ r wo e (CO σ r wo (RT σ r wo f c (30 - f)) g e (e - f)) (ws σ r wo e (CO σ r wo (RT σ r wo f c (30 - f)) g e (e - f)) f c i).1 (ws σ r wo e (CO σ r wo (RT σ r wo f c (30 - f)) g e (e - f)) f c i).2 (wa σ r wo e (CO σ r wo (RT σ r wo f c (30 - f)) g e (e - f)) f c i) ∧ ∀ j : Nat, j < wa σ r wo e (CO σ r wo (RT σ r wo f c (30 - f)) g e (e - f)) f c i → ¬ bst σ r wo e (CO σ r wo (RT σ r wo f c (30 - f)) g e (e - f)) (ws σ r wo e (CO σ r wo (RT σ r wo f c (30 - f)) g e (e - f)) f c i).1 (ws σ r wo e (CO σ r wo (RT σ r wo f c (30 - f)) g e (e - f)) f c i).2 j := by
  obtain ⟨i1, i2, i3⟩ := ws_inv hwl hc hfe he hst i
  exact ba_spec (bst_ex (RT_rng hwl hc i1).1 hi i1 i3)
end PO
