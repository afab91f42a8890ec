/-! a row one tick later -/
section TIC
def TS (σ τ : Nat → Int) (r : Nat) : Prop := (∀ c a, mvs τ c a = mvs σ c a) ∧ if 0 < ro σ r 2 then JX σ τ r (ac σ r 0) else ro τ r 0 = ro σ r 0 ∧ ro τ r 2 = ro σ r 2 ∧ ro τ r 3 = ro σ r 3
/-- the three ways: the first action ends, it goes on, or there is none -/
theorem ts_cases {σ τ : Nat → Int} {r : Nat} (h : TS σ τ r) (hw : wr σ r) : (0 < ro σ r 2 ∧ ro σ r 3 + 1 = tk (ac σ r 0) ∧ ro τ r 0 = mvs σ (ro σ r 0) (ac σ r 0) ∧ ro τ r 3 = 0 ∧ ro τ r 2 = ro σ r 2 - 1 ∧ ∀ k : Nat, (k : Int) + 1 < ro σ r 2 → ac τ r k = ac σ r (k + 1)) ∨ (0 < ro σ r 2 ∧ ro σ r 3 + 1 < tk (ac σ r 0) ∧ 5 ≤ ac σ r 0 ∧ ro τ r 0 = ro σ r 0 ∧ ro τ r 2 = ro σ r 2 ∧ ro τ r 3 = ro σ r 3 + 1 ∧ ∀ k : Nat, (k : Int) < ro σ r 2 → ac τ r k = ac σ r k) ∨ (ro σ r 2 = 0 ∧ ro σ r 3 = 0 ∧ ro τ r 0 = ro σ r 0 ∧ ro τ r 2 = 0 ∧ ro τ r 3 = 0) := by
  obtain ⟨w1, w2, w3, w4, w5, w6⟩ := hw
  have h2 := h.2
  by_cases c : 0 < ro σ r 2
  · rw [if_pos c] at h2
    unfold JX at h2
    by_cases d : ro σ r 3 + 1 = tk (ac σ r 0)
    · rw [if_pos d] at h2
      exact Or.inl ⟨c, d, h2⟩
    · rw [if_neg d] at h2
      have e : ro σ r 3 + 1 < tk (ac σ r 0) ∧ 5 ≤ ac σ r 0 := by
        by_cases q : 0 < ro σ r 3
        · have := w5 q
          have t3 := tk_ride this.2.1
          omega
        · by_cases q5 : ac σ r 0 < 5
          · have t1 := tk_one q5
            omega
          · have t3 := tk_ride (a := ac σ r 0) (by omega)
            omega
      exact Or.inr (Or.inl ⟨c, e.1, e.2, h2⟩)
  · rw [if_neg c] at h2
    have : ro σ r 3 = 0 := by
      by_cases q : 0 < ro σ r 3
      · have := w5 q
        omega
      · omega
    exact Or.inr (Or.inr ⟨by omega, this, h2.1, by omega, by omega⟩)
theorem ts_ck1 {σ τ : Nat → Int} {r : Nat} (hm : ∀ c a, mvs τ c a = mvs σ c a) (h0 : ro τ r 0 = mvs σ (ro σ r 0) (ac σ r 0)) (ha : ∀ k : Nat, (k : Int) + 1 < ro σ r 2 → ac τ r k = ac σ r (k + 1)) : ∀ k : Nat, (k : Int) + 1 ≤ ro σ r 2 → ck τ r k = ck σ r (k + 1)
  | 0, _ => h0
  | k + 1, hk => by
    have ih := ts_ck1 hm h0 ha k (by omega)
    rw [ck, ih, hm, ha k (by omega)]
    rfl
theorem ts_lt1 {σ τ : Nat → Int} {r : Nat} (ha : ∀ k : Nat, (k : Int) + 1 < ro σ r 2 → ac τ r k = ac σ r (k + 1)) : ∀ k : Nat, (k : Int) + 1 ≤ ro σ r 2 → lt (al τ r) k + (tk (ac σ r 0)).toNat = lt (al σ r) (k + 1)
  | 0, _ => by
    show 0 + _ = 0 + _
    rfl
  | k + 1, hk => by
    have ih := ts_lt1 ha k (by omega)
    rw [lt, lt, ← ih]
    have : al τ r k = al σ r (k + 1) := ha k (by omega)
    rw [this]
    omega
theorem ts_ck0 {σ τ : Nat → Int} {r : Nat} (hm : ∀ c a, mvs τ c a = mvs σ c a) (h0 : ro τ r 0 = ro σ r 0) (ha : ∀ k : Nat, (k : Int) < ro σ r 2 → ac τ r k = ac σ r k) : ∀ k : Nat, (k : Int) ≤ ro σ r 2 → ck τ r k = ck σ r k
  | 0, _ => h0
  | k + 1, hk => by
    have ih := ts_ck0 hm h0 ha k (by omega)
    rw [ck, ck, ih, hm, ha k (by omega)]
theorem ts_lt0 {σ τ : Nat → Int} {r : Nat} (ha : ∀ k : Nat, (k : Int) < ro σ r 2 → ac τ r k = ac σ r k) : ∀ k : Nat, (k : Int) ≤ ro σ r 2 → lt (al τ r) k = lt (al σ r) k
  | 0, _ => rfl
  | k + 1, hk => by
    have ih := ts_lt0 ha k (by omega)
    rw [lt, lt, ih]
    have : al τ r k = al σ r k := ha k (by omega)
    rw [this]
theorem ts_wr {σ τ : Nat → Int} {r : Nat} (h : TS σ τ r) (hw : wr σ r) : wr τ r := by
  have hc := ts_cases h hw
  obtain ⟨w1, w2, w3, w4, w5, w6⟩ := hw
  have hm := h.1
  rcases hc with ⟨c, d, b0, b3, b2, ba⟩ | ⟨c, d, d5, b0, b2, b3, ba⟩ | ⟨c, d, b0, b2, b3⟩
  · refine ⟨by omega, fun k hk => ?_, fun k hk => ?_, by omega, fun q => absurd q (by omega), ?_⟩
    · rw [ba k (by omega)]
      exact w2 (k + 1) (by omega)
    · rw [ts_ck1 hm b0 ba k (by omega)]
      exact w3 (k + 1) (by omega)
    · rw [pk_tl] at w6 ⊢
      rw [b2, b3]
      have hl := ts_lt1 ba (ro σ r 2 - 1).toNat (by omega)
      rw [show (ro σ r 2 - 1).toNat + 1 = (ro σ r 2).toNat by omega] at hl
      have := tk_pos (ac σ r 0)
      omega
  · refine ⟨by omega, fun k hk => ?_, fun k hk => ?_, by omega, fun q => ?_, ?_⟩
    · rw [ba k (by omega)]
      exact w2 k (by omega)
    · rw [ts_ck0 hm b0 ba k (by omega)]
      exact w3 k (by omega)
    · have := tk_pos (ac σ r 0)
      have e0 : ac τ r 0 = ac σ r 0 := ba 0 (by omega)
      rw [e0]
      exact ⟨by omega, d5, by omega⟩
    · rw [pk_tl] at w6 ⊢
      rw [b2, b3, ts_lt0 ba _ (by omega)]
      omega
  · refine ⟨by omega, fun k hk => absurd hk (by omega), fun k hk => ?_, by omega, fun q => absurd q (by omega), ?_⟩
    · have : k = 0 := by omega
      subst this
      show 0 ≤ ro τ r 0 ∧ ro τ r 0 < 40
      rw [b0]
      exact w3 0 (by omega)
    · rw [b2, b3]
      show (0 : Int) - 0 ≤ 30
      omega
theorem ts_fs {σ τ : Nat → Int} {r : Nat} (h : TS σ τ r) (hw : wr σ r) : (∀ k, fw τ r k = fw σ r (k + 1)) ∧ (∀ t, fs τ r t = ((fs σ r (t + 1)).1, (fs σ r (t + 1)).2.1 - 1, (fs σ r (t + 1)).2.2) ∧ 1 ≤ (fs σ r (t + 1)).2.1) ∨ (∀ k, fw τ r k = fw σ r k) ∧ ∀ t, fs τ r t = fs σ r (t + 1) := by
  have hc := ts_cases h hw
  have hm := h.1
  have step : ∀ x : Nat → Int × Nat × Int, ∀ t, fs σ r (t + 1) = if (fs σ r t).2.2 + 1 = tk (fw σ r (fs σ r t).2.1) then (mvs σ (fs σ r t).1 (fw σ r (fs σ r t).2.1), (fs σ r t).2.1 + 1, 0) else ((fs σ r t).1, (fs σ r t).2.1, (fs σ r t).2.2 + 1) := fun _ _ => rfl
  have mkA : (∀ k, fw τ r k = fw σ r (k + 1)) → fs σ r 1 = (ro τ r 0, 1, 0) → ro τ r 3 = 0 → (∀ k, fw τ r k = fw σ r (k + 1)) ∧ (∀ t, fs τ r t = ((fs σ r (t + 1)).1, (fs σ r (t + 1)).2.1 - 1, (fs σ r (t + 1)).2.2) ∧ 1 ≤ (fs σ r (t + 1)).2.1) := by
    intro f1 f2 f3
    refine ⟨f1, fun t => ?_⟩
    induction t with
    | zero =>
      rw [f2]
      refine ⟨?_, Nat.le_refl _⟩
      show (ro τ r 0, 0, ro τ r 3) = _
      rw [f3]
      rfl
    | succ t ih =>
      obtain ⟨i1, i2⟩ := ih
      rw [step (fun _ => (0, 0, 0)) (t + 1)]
      rw [fs, i1]
      generalize fs σ r (t + 1) = x at i2
      obtain ⟨c, k, f⟩ := x
      dsimp only at i2 ⊢
      rw [f1, show k - 1 + 1 = k by omega, hm]
      by_cases q : f + 1 = tk (fw σ r k)
      · rw [if_pos q, if_pos q]
        dsimp only
        exact ⟨by rw [show k + 1 - 1 = k by omega], by omega⟩
      · rw [if_neg q, if_neg q]
        exact ⟨rfl, i2⟩
  rcases hc with ⟨c, d, b0, b3, b2, ba⟩ | ⟨c, d, d5, b0, b2, b3, ba⟩ | ⟨c, d, b0, b2, b3⟩
  · left
    have w0 : fw σ r 0 = ac σ r 0 := by
      unfold fw
      rw [if_pos (by omega)]
      rfl
    refine mkA (fun k => ?_) ?_ b3
    · unfold fw
      rw [b2]
      by_cases q : (k : Int) < ro σ r 2 - 1
      · rw [if_pos q, if_pos (by omega), ba k (by omega)]
        rfl
      · rw [if_neg q, if_neg (by omega)]
    · show (if ro σ r 3 + 1 = tk (fw σ r 0) then _ else _) = _
      rw [w0, if_pos d, b0]
      show (mvs σ (ro σ r 0) (fw σ r 0), _, _) = _
      rw [w0]
      rfl
  · right
    have w0 : fw σ r 0 = ac σ r 0 := by
      unfold fw
      rw [if_pos (by omega)]
      rfl
    have f1 : ∀ k, fw τ r k = fw σ r k := fun k => by
      unfold fw
      rw [b2]
      by_cases q : (k : Int) < ro σ r 2
      · rw [if_pos q, if_pos q, ba k q]
      · rw [if_neg q, if_neg q]
    refine ⟨f1, fun t => ?_⟩
    induction t with
    | zero =>
      show (ro τ r 0, 0, ro τ r 3) = (if ro σ r 3 + 1 = tk (fw σ r 0) then _ else _)
      rw [w0, if_neg (by omega), b0, b3]
      rfl
    | succ t ih =>
      rw [step (fun _ => (0, 0, 0)) (t + 1), fs, ih]
      generalize fs σ r (t + 1) = x
      obtain ⟨c, k, f⟩ := x
      dsimp only
      rw [f1, hm]
  · left
    have w0 : ∀ k, fw σ r k = 0 := fun k => by
      unfold fw
      rw [if_neg (by omega)]
    refine mkA (fun k => ?_) ?_ b3
    · rw [w0]
      unfold fw
      rw [if_neg (by omega)]
    · show (if ro σ r 3 + 1 = tk (fw σ r 0) then _ else _) = _
      rw [w0, d, if_pos (by decide)]
      show (mvs σ (ro σ r 0) (fw σ r 0), _, _) = _
      rw [w0, mvs_zero, b0]
      rfl
theorem ts_fa {σ τ : Nat → Int} {r : Nat} (h : TS σ τ r) (hw : wr σ r) (t : Nat) : fa τ r t = fa σ r (t + 1) := by
  unfold fa
  rcases ts_fs h hw with ⟨f1, f2⟩ | ⟨f1, f2⟩
  · obtain ⟨g1, g2⟩ := f2 t
    rw [g1]
    dsimp only
    rw [f1, show (fs σ r (t + 1)).2.1 - 1 + 1 = (fs σ r (t + 1)).2.1 by omega]
  · rw [f2 t, f1]
theorem ts_fp {σ τ : Nat → Int} {r : Nat} (h : TS σ τ r) (hw : wr σ r) (t : Nat) : fp τ r t = fp σ r (t + 1) := by
  unfold fp
  rw [ts_fa h hw]
  rcases ts_fs h hw with ⟨f1, f2⟩ | ⟨f1, f2⟩
  · rw [(f2 t).1]
  · rw [f2 t]
theorem ts_PR {σ τ : Nat → Int} {r p : Nat} {C : Int} {M : am_M} (h : TS σ τ r) (hw : wr σ r) (hp : PR σ r p C M) : PR τ r p (C + 1) M := by
  have hc := ts_cases h hw
  have hm := h.1
  obtain ⟨b, n, q1, q2, q3, q4, q5, q6, q7, q8⟩ := hp
  rcases hc with ⟨c, d, b0, b3, b2, ba⟩ | ⟨c, d, d5, b0, b2, b3, ba⟩ | ⟨c, d, b0, b2, b3⟩
  · obtain ⟨m, rfl⟩ : ∃ m, n = m + 1 := ⟨n - 1, by omega⟩
    have ht := tk_pos (ac σ r 0)
    have hlt := ts_lt1 ba
    have hck := ts_ck1 hm b0 ba
    rw [if_pos (by omega)] at q5
    have hm1 := hlt m (by omega)
    refine ⟨b + (tk (ac σ r 0)).toNat, m, by omega, by omega, q3, q4, ?_, fun k j hk hj => ?_, ?_, fun i hi hi2 => ?_⟩
    · rw [b3]
      split <;> omega
    · have e := ba k (by omega)
      rw [e] at hj
      have hl := hlt k (by omega)
      have := q6 (k + 1) j (by omega) (by push_cast; exact hj)
      rw [show b + (tk (ac σ r 0)).toNat + lt (al τ r) k + j = b + lt (al σ r) (k + 1) + j by omega, this.1, this.2, e, hck k (by omega)]
      exact ⟨rfl, rfl⟩
    · rw [show b + (tk (ac σ r 0)).toNat + lt (al τ r) m = b + lt (al σ r) (m + 1) by omega, q7, hck m (by omega)]
    · by_cases hib : i < b
      · have := q8 i hib hi2
        omega
      · have := q6 0 (i - b) (by omega) (by show ((i - b : Nat) : Int) < tk (ac σ r 0); omega)
        have hl0 : lt (al σ r) 0 = 0 := rfl
        rw [hl0, show b + 0 + (i - b) = i by omega] at this
        by_cases hj : i - b = 0
        · rw [this.1]
          show (i : Int) + tk (ac σ r 0) ≤ _
          omega
        · rw [if_neg hj] at this
          have e := this.2
          have : ¬ ac σ r 0 < 5 := fun q => by
            have := tk_one q
            omega
          have e2 : iv M (p + 2) i = 4 - ac σ r 0 := e
          omega
  · have hlt := ts_lt0 ba
    have hck := ts_ck0 hm b0 ba
    rw [if_pos (by omega)] at q5
    refine ⟨b, n, by omega, by rw [hlt n (by omega)]; exact q2, q3, q4, ?_, fun k j hk hj => ?_, ?_, q8⟩
    · rw [if_pos (by omega), b3]
      omega
    · have e := ba k (by omega)
      rw [e] at hj ⊢
      rw [hlt k (by omega), hck k (by omega)]
      exact q6 k j hk hj
    · rw [hlt n (by omega), hck n (by omega)]
      exact q7
  · have hn : n = 0 := by omega
    subst hn
    rw [if_neg (by omega)] at q5
    refine ⟨b, 0, by omega, q2, q3, q4, ?_, fun k j hk => absurd hk (by omega), ?_, q8⟩
    · rw [if_neg (by omega)]
      omega
    · have e : ck τ r 0 = ck σ r 0 := b0
      rw [e]
      exact q7
end TIC
