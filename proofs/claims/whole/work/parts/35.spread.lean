/-! the class spreads what is reached -/
section PK
/-- the finder's masks say what is free, what exchanges cells, which lifts are free -/
def FM (σ : Nat → Int) (r wo : Int) (M : am_M) : Prop := (∀ t c : Nat, t ≤ 30 → c < 40 → (pb (am_lg M 162 t) c = true ↔ ¬ fre σ r wo c t)) ∧ (∀ t a y : Nat, t < 30 → 1 ≤ a → a ≤ 4 → y < 40 → nb y a ≠ -1 → (pb (am_lg M 163 (7 * t + a)) y = true ↔ swp σ r wo y (nb y a) t)) ∧ (∀ t l y : Nat, t ≤ 27 → l < 2 → y < 40 → (pb (am_lg M 163 (7 * t + 5 + l)) y = true ↔ ¬ lfr σ r wo l t))
theorem leg_wait {σ : Nat → Int} {r wo : Int} {M : am_M} (h : FM σ r wo M) {t y : Nat} (ht : t < 30) (hy : y < 40) : leg σ r wo y 0 t ↔ pb (am_lg M 162 (t + 1)) y = false := by
  have h1 := h.1 (t + 1) y (by omega) hy
  unfold leg
  rw [mvs_zero, tk_zero, if_neg (by omega)]
  have e1 : ((t : Int) + 1).toNat = t + 1 := by omega
  rw [e1]
  constructor
  · intro h2
    by_cases h3 : pb (am_lg M 162 (t + 1)) y = true
    · exact absurd h2.2.2.1 (h1.mp h3)
    · simpa using h3
  · intro h2
    refine ⟨by omega, by omega, ?_, Or.inl rfl⟩
    by_cases h3 : fre σ r wo y (t + 1)
    · exact h3
    · rw [h1.mpr h3] at h2; cases h2
theorem leg_move {σ : Nat → Int} {r wo : Int} {M : am_M} (h : FM σ r wo M) {t y a : Nat} (ht : t < 30) (hy : y < 40) (ha : 1 ≤ a ∧ a ≤ 4) {c : Nat} (hc : c < 40) (hn : nb y a = c) : leg σ r wo y a t ↔ (pb (am_lg M 162 (t + 1)) c = false ∧ pb (am_lg M 163 (7 * t + a)) y = false) := by
  have h1 := h.1 (t + 1) c (by omega) hc
  have h2 := h.2.1 t a y ht ha.1 ha.2 hy (by omega)
  have hm : mvs σ y a = c := by
    unfold mvs
    rw [if_neg (by omega), if_pos (by omega), hn]
  unfold leg
  rw [hm, tk_one (a := (a : Int)) (by omega), if_neg (by omega), ← hn]
  have e1 : ((t : Int) + 1).toNat = t + 1 := by omega
  rw [e1]
  rw [← hn] at h1
  constructor
  · intro h3
    constructor
    · by_cases h4 : pb (am_lg M 162 (t + 1)) c = true
      · exact absurd h3.2.2.1 (h1.mp h4)
      · simpa using h4
    · by_cases h4 : pb (am_lg M 163 (7 * t + a)) y = true
      · exact h3.2.2.2.elim (fun e => by omega) (fun e => absurd (h2.mp h4) e)
      · simpa using h4
  · intro ⟨h3, h4⟩
    refine ⟨by omega, by omega, ?_, Or.inr (fun h5 => ?_)⟩
    · by_cases h5 : fre σ r wo (nb y a) (t + 1)
      · exact h5
      · rw [h1.mpr h5] at h3; cases h3
    · rw [h2.mpr h5] at h4; cases h4
theorem leg_ride {σ : Nat → Int} {r wo : Int} {M : am_M} (h : FM σ r wo M) {t y l : Nat} (ht : t ≤ 27) (hy : y < 40) (hl : l < 2) {c : Nat} (hc : c < 40) (hn : rd σ y l = c) : leg σ r wo y (5 + l : Nat) t ↔ (pb (am_lg M 162 (t + 3)) c = false ∧ pb (am_lg M 163 (7 * t + 5 + l)) y = false) := by
  have h1 := h.1 (t + 3) c (by omega) hc
  have h2 := h.2.2 t l y ht hl hy
  have hm : mvs σ y (5 + l : Nat) = c := by
    unfold mvs
    rw [if_neg (by omega), if_neg (by omega), show ((5 + l : Nat) : Int) - 5 = l by omega, hn]
  unfold leg
  rw [hm, tk_ride (a := ((5 + l : Nat) : Int)) (by omega), if_pos (by omega), show ((5 + l : Nat) : Int) - 5 = l by omega]
  have e1 : ((t : Int) + 3).toNat = t + 3 := by omega
  rw [e1]
  constructor
  · intro h3
    constructor
    · by_cases h4 : pb (am_lg M 162 (t + 3)) c = true
      · exact absurd h3.2.2.1 (h1.mp h4)
      · simpa using h4
    · by_cases h4 : pb (am_lg M 163 (7 * t + 5 + l)) y = true
      · exact absurd h3.2.2.2 (h2.mp h4)
      · simpa using h4
  · intro ⟨h3, h4⟩
    refine ⟨by omega, by omega, ?_, ?_⟩
    · by_cases h5 : fre σ r wo c (t + 3)
      · exact h5
      · rw [h1.mpr h5] at h3; cases h3
    · by_cases h5 : lfr σ r wo l t
      · exact h5
      · rw [h2.mpr h5] at h4; cases h4
/-- the moves of a tick -/
theorem s_spread45 {t : Nat} {x : Int64} {M : am_M} (ht : t < 30) (hx : inb x) : ∃ y, g_X0_spread_L45 (pI t) x am_fu x (pI 1) M = some (y, M) ∧ inb y ∧ ∀ c : Nat, c < 40 → (pb y c = true ↔ pb x c = true ∨ ∃ a d : Nat, 1 ≤ a ∧ a ≤ 4 ∧ d < 40 ∧ pb x d = true ∧ pb (am_lg M 163 (7 * t + a)) d = false ∧ nb d a = c) := by
  have key := lo_for (fun m (s : Int64 × Int32 × am_M) => g_X0_spread_L45 (pI t) x m s.1 s.2.1 s.2.2) (fun k s => 1 ≤ k ∧ s.2.1 = pI (k : Nat) ∧ s.2.2 = M ∧ inb s.1 ∧ ∀ c : Nat, c < 40 → (pb s.1 c = true ↔ pb x c = true ∨ ∃ a d : Nat, 1 ≤ a ∧ a < k ∧ d < 40 ∧ pb x d = true ∧ pb (am_lg M 163 (7 * t + a)) d = false ∧ nb d a = c)) (fun y => y.2 = M ∧ inb y.1 ∧ ∀ c : Nat, c < 40 → (pb y.1 c = true ↔ pb x c = true ∨ ∃ a d : Nat, 1 ≤ a ∧ a ≤ 4 ∧ d < 40 ∧ pb x d = true ∧ pb (am_lg M 163 (7 * t + a)) d = false ∧ nb d a = c)) 1 5 (x, pI 1, M) ⟨Nat.le_refl _, rfl, rfl, hx, fun c hc => ⟨Or.inl, fun h => h.elim id (fun ⟨a, d, h1, h2, _⟩ => by omega)⟩⟩ (by omega) (by unfold am_fu; omega) ?_ ?_
  · obtain ⟨⟨y, N⟩, h3, h4, h5⟩ := key
    dsimp only at h4
    subst h4
    exact ⟨y, h3, h5⟩
  · rintro m k ⟨z, a8, N⟩ hk ⟨hk1, e1, e2, hz, hp⟩
    dsimp only at e1 e2 hz hp
    subst e1 e2
    left
    have hin : inb (x &&& (am_lg N 163 (7 * t + k) ^^^ (-1 : Int64))) := fun c hc => by
      rw [pb_and, hx c hc]; rfl
    obtain ⟨y, g1, g2, g3⟩ := s_cmoved (a := (k : Int)) N hin (by omega)
    refine ⟨(z ||| y, pI (k + 1 : Nat), N), ?_, by omega, rfl, rfl, fun c hc => by rw [pb_or, hz c hc, g2 c hc]; rfl, fun c hc => ?_⟩
    · dsimp only
      rw [g_X0_spread_L45]
      simp (disch := (first | omega | exact (iv_rng _ _ _).1 | exact (iv_rng _ _ _).2)) only [pi_lit, pi_nat, pi_add, pi_sub, pi_mul, pi_neg, pi_le, pi_lt, pi_eq, pi_cn, pi_ci, pi_g, am_b_some, iv_s, iv_ls, lg_s, lg_ls, if_true, if_false, Int.reduceEq, Int.reduceLT, Int.reduceLE, Int.reduceToNat, s_maskAt1]
      rw [if_neg (by omega), show ((t : Int) * 7 + (k : Int)).toNat = 7 * t + k by omega, g1, am_b_some]
      rfl
    · rw [pb_or, Bool.or_eq_true, hp c hc, g3 c hc]
      constructor
      · rintro ((h1 | ⟨a, d, h1, h2, h3⟩) | ⟨d, h1, h2, h3⟩)
        · exact Or.inl h1
        · exact Or.inr ⟨a, d, h1, by omega, h3⟩
        · rw [pb_and, pb_not _ (by omega), Bool.and_eq_true, Bool.not_eq_true'] at h2
          exact Or.inr ⟨k, d, hk1, by omega, h1, h2.1, h2.2, h3⟩
      · rintro (h1 | ⟨a, d, h1, h2, h3, h4, h5, h6⟩)
        · exact Or.inl (Or.inl h1)
        · by_cases h7 : a = k
          · subst h7
            right
            refine ⟨d, h3, ?_, h6⟩
            rw [pb_and, pb_not _ (by omega), Bool.and_eq_true, Bool.not_eq_true']
            exact ⟨h4, h5⟩
          · exact Or.inl (Or.inr ⟨a, d, h1, by omega, h3, h4, h5, h6⟩)
  · rintro m ⟨z, a8, N⟩ ⟨hk1, e1, e2, hz, hp⟩
    dsimp only at e1 e2 hz hp
    subst e1 e2
    refine ⟨(z, N), ?_, rfl, hz, fun c hc => (hp c hc).trans ⟨?_, ?_⟩⟩
    · dsimp only
      rw [g_X0_spread_L45]
      simp (disch := (first | omega | exact (iv_rng _ _ _).1 | exact (iv_rng _ _ _).2)) only [pi_lit, pi_nat, pi_add, pi_sub, pi_mul, pi_neg, pi_le, pi_lt, pi_eq, pi_cn, pi_ci, pi_g, am_b_some, iv_s, iv_ls, lg_s, lg_ls, if_true, if_false, Int.reduceEq, Int.reduceLT, Int.reduceLE, Int.reduceToNat]
      rw [if_pos (by omega)]
    · rintro (h1 | ⟨a, d, h1, h2, h3⟩)
      · exact Or.inl h1
      · exact Or.inr ⟨a, d, h1, by omega, h3⟩
    · rintro (h1 | ⟨a, d, h1, h2, h3⟩)
      · exact Or.inl h1
      · exact Or.inr ⟨a, d, h1, by omega, h3⟩
end PK
