/-! exchanging cells, lifts, the legal actions -/
section PT
theorem fp_rng' {σ : Nat → Int} {wo : Int} {M : am_M} (h : MS σ wo M) {o t : Nat} (ho : (o : Int) < σ 6) (ht : t < 31) : -2147483648 ≤ fp σ o t ∧ fp σ o t < 2147483648 := by
  rw [← (h.2.2.2 o t ho ht).1]; exact iv_rng _ _ _
theorem fl_rng' {σ : Nat → Int} {wo : Int} {M : am_M} (h : MS σ wo M) {o t : Nat} (ho : (o : Int) < σ 6) (ht : t < 31) : -2147483648 ≤ fl σ o t ∧ fl σ o t < 2147483648 := by
  rw [← (h.2.2.2 o t ho ht).2]; exact iv_rng _ _ _
theorem s_isSwap {σ : Nat → Int} {r wo c d : Int} {t : Nat} {M : am_M} (h : MS σ wo M) (hr : 0 ≤ r ∧ r < 5) (hc : 0 ≤ c ∧ c < 40) (hd : 0 ≤ d ∧ d < 40) (ht : t < 30) : g_X10_isSwap (pI r) (pI c) (pI d) (pI t) M = some (pI (b01 (swp σ r wo c d t)), M) := by
  obtain ⟨hs, hw, h6, hp⟩ := id h
  have h6' := MS_six h
  have h9 := iv_rng M 174 11
  rw [hw] at h9
  have key := lo_for (fun m (s : Int32 × Int32 × am_M) => g_X10_isSwap_L6 (pI r) (pI c) (pI d) (pI t) m s.1 s.2.1 s.2.2) (fun k s => s = (pI (b01 (∃ o : Nat, o < k ∧ ot r wo o ∧ fp σ o t = d ∧ fp σ o (t + 1) = c)), pI (k : Nat), M)) (fun x => x = (pI (b01 (swp σ r wo c d t)), M)) 0 (σ 6).toNat (pI 0, pI 0, M) (by rw [b01_f (p := ∃ o : Nat, o < 0 ∧ ot r wo o ∧ fp σ o t = d ∧ fp σ o (t + 1) = c) (fun ⟨o, ho, _⟩ => by omega)]; rfl) (by omega) (by unfold am_fu; omega) ?_ ?_
  · obtain ⟨x, h3, rfl⟩ := key
    unfold g_X10_isSwap
    dsimp only at h3
    simp only [pi_lit]
    erw [h3]
    rw [am_b_some]
    exact b01_c _
  · rintro m k s hk rfl
    left
    refine ⟨(pI (b01 (∃ o : Nat, o < k + 1 ∧ ot r wo o ∧ fp σ o t = d ∧ fp σ o (t + 1) = c)), pI (k + 1 : Nat), M), ?_, rfl⟩
    dsimp only
    rw [g_X10_isSwap_L6]
    by_cases h1 : ∃ o : Nat, o < k ∧ ot r wo o ∧ fp σ o t = d ∧ fp σ o (t + 1) = c
    · rw [b01_t h1]
      simp (disch := (first | omega | exact (iv_rng _ _ _).1 | exact (iv_rng _ _ _).2)) only [pi_lit, pi_nat, pi_add, pi_sub, pi_mul, pi_neg, pi_le, pi_lt, pi_eq, pi_cn, pi_ci, pi_g, am_b_some, iv_s, iv_ls, lg_s, lg_ls, if_true, if_false, Int.reduceEq, Int.reduceLT, Int.reduceLE, Int.reduceToNat, h6', hw]
      rw [if_neg (by omega), b01_t (p := ∃ o : Nat, o < k + 1 ∧ ot r wo o ∧ fp σ o t = d ∧ fp σ o (t + 1) = c) (h1.elim fun o h2 => ⟨o, by omega, h2.2⟩)]
      rfl
    · rw [b01_f h1]
      have h10 := (hp k t (by omega) (by omega)).1
      have h11 := (hp k (t + 1) (by omega) (by omega)).1
      have h12 := fp_rng' h (o := k) (t := t) (by omega) (by omega)
      have h13 := fp_rng' h (o := k) (t := t + 1) (by omega) (by omega)
      have hno : ¬ (ot r wo k ∧ fp σ k t = d ∧ fp σ k (t + 1) = c) → b01 (∃ o : Nat, o < k + 1 ∧ ot r wo o ∧ fp σ o t = d ∧ fp σ o (t + 1) = c) = 0 := fun h2 => b01_f (fun ⟨o, ho, h3⟩ => by
        by_cases h4 : o = k
        · subst h4; exact h2 h3
        · exact h1 ⟨o, by omega, h3⟩)
      simp (disch := (first | omega | exact (iv_rng _ _ _).1 | exact (iv_rng _ _ _).2)) only [pi_lit, pi_nat, pi_add, pi_sub, pi_mul, pi_neg, pi_le, pi_lt, pi_eq, pi_cn, pi_ci, pi_g, am_b_some, iv_s, iv_ls, lg_s, lg_ls, if_true, if_false, Int.reduceEq, Int.reduceLT, Int.reduceLE, Int.reduceToNat, h6', hw]
      rw [if_neg (by omega), show (31 * (k : Int) + (t : Int)).toNat = 31 * k + t by omega, show (31 * (k : Int) + (t : Int) + 1).toNat = 31 * k + (t + 1) by omega, h10, h11]
      by_cases h2 : (k : Int) = r
      · rw [if_pos h2, hno (fun h3 => h3.1.1 h2)]
        rfl
      · rw [if_neg h2]
        by_cases h3 : (k : Int) = wo
        · rw [if_pos h3, hno (fun h4 => h4.1.2 h3)]
          rfl
        · rw [if_neg h3]
          by_cases h4 : fp σ k t = d
          · rw [if_pos h4]
            by_cases h5 : fp σ k (t + 1) = c
            · rw [if_pos h5, b01_t (p := ∃ o : Nat, o < k + 1 ∧ ot r wo o ∧ fp σ o t = d ∧ fp σ o (t + 1) = c) ⟨k, by omega, ⟨h2, h3⟩, h4, h5⟩]
              rfl
            · rw [if_neg h5, hno (fun h6 => h5 h6.2.2)]
              rfl
          · rw [if_neg h4, hno (fun h6 => h4 h6.2.1)]
            rfl
  · rintro m s rfl
    refine ⟨(pI (b01 (∃ o : Nat, o < (σ 6).toNat ∧ ot r wo o ∧ fp σ o t = d ∧ fp σ o (t + 1) = c)), M), ?_, ?_⟩
    · dsimp only
      rw [g_X10_isSwap_L6]
      simp (disch := (first | omega | exact (iv_rng _ _ _).1 | exact (iv_rng _ _ _).2)) only [pi_lit, pi_nat, pi_add, pi_sub, pi_mul, pi_neg, pi_le, pi_lt, pi_eq, pi_cn, pi_ci, pi_g, am_b_some, iv_s, iv_ls, lg_s, lg_ls, if_true, if_false, Int.reduceEq, Int.reduceLT, Int.reduceLE, Int.reduceToNat, h6']
      rw [if_pos (by omega)]
    · have e : (∃ o : Nat, o < (σ 6).toNat ∧ ot r wo o ∧ fp σ o t = d ∧ fp σ o (t + 1) = c) ↔ swp σ r wo c d t := ⟨fun ⟨o, ho, x⟩ => ⟨o, by omega, x⟩, fun ⟨o, ho, x⟩ => ⟨o, by omega, x⟩⟩
      rw [b01_iff e]
theorem s_isLiftFree {σ : Nat → Int} {r wo l : Int} {t : Nat} {M : am_M} (h : MS σ wo M) (hr : 0 ≤ r ∧ r < 5) (hl : 0 ≤ l ∧ l < 2) (ht : t ≤ 27) : g_X10_isLiftFree (pI r) (pI l) (pI t) M = some (pI (b01 (lfr σ r wo l t)), M) := by
  obtain ⟨hs, hw, h6, hp⟩ := id h
  have h6' := MS_six h
  have h9 := iv_rng M 174 11
  rw [hw] at h9
  have inner : ∀ (o : Nat) (b : Prop), (o : Int) < σ 6 → g_X10_isLiftFree_L21 (pI r) (pI l) (pI t) (pI o) am_fu (pI (b01 b)) (pI t) M = some (pI (b01 (b ∧ (ot r wo o → ∀ k : Nat, t ≤ k → k < t + 3 → fl σ o k ≠ l))), M) := by
    intro o b ho
    have key := lo_for (fun m (s : Int32 × Int32 × am_M) => g_X10_isLiftFree_L21 (pI r) (pI l) (pI t) (pI o) m s.1 s.2.1 s.2.2) (fun q s => t ≤ q ∧ s = (pI (b01 (b ∧ (ot r wo o → ∀ k : Nat, t ≤ k → k < q → fl σ o k ≠ l))), pI (q : Nat), M)) (fun x => x = (pI (b01 (b ∧ (ot r wo o → ∀ k : Nat, t ≤ k → k < t + 3 → fl σ o k ≠ l))), M)) t (t + 3) (pI (b01 b), pI t, M) ⟨Nat.le_refl _, by rw [b01_iff (p := b ∧ (ot r wo o → ∀ k : Nat, t ≤ k → k < t → fl σ o k ≠ l)) (q := b) ⟨fun x => x.1, fun x => ⟨x, fun _ k h1 h2 => by omega⟩⟩]⟩ (by omega) (by unfold am_fu; omega) ?_ ?_
    · obtain ⟨x, h3, rfl⟩ := key
      exact h3
    · rintro m q s hq ⟨hqt, rfl⟩
      left
      refine ⟨(pI (b01 (b ∧ (ot r wo o → ∀ k : Nat, t ≤ k → k < q + 1 → fl σ o k ≠ l))), pI (q + 1 : Nat), M), ?_, by omega, rfl⟩
      dsimp only
      rw [g_X10_isLiftFree_L21]
      by_cases h1 : b ∧ (ot r wo o → ∀ k : Nat, t ≤ k → k < q → fl σ o k ≠ l)
      · rw [b01_t h1]
        have h10 := (hp o q (by omega) (by omega)).2
        have h12 := fl_rng' h (o := o) (t := q) (by omega) (by omega)
        have hyes : (¬ ot r wo o ∨ fl σ o q ≠ l) → b01 (b ∧ (ot r wo o → ∀ k : Nat, t ≤ k → k < q + 1 → fl σ o k ≠ l)) = 1 := fun h2 => b01_t ⟨h1.1, fun hot k hk1 hk2 => by
          by_cases h4 : k = q
          · subst h4; exact h2.elim (fun x => absurd hot x) id
          · exact h1.2 hot k hk1 (by omega)⟩
        simp (disch := (first | omega | exact (iv_rng _ _ _).1 | exact (iv_rng _ _ _).2)) only [pi_lit, pi_nat, pi_add, pi_sub, pi_mul, pi_neg, pi_le, pi_lt, pi_eq, pi_cn, pi_ci, pi_g, am_b_some, iv_s, iv_ls, lg_s, lg_ls, if_true, if_false, Int.reduceEq, Int.reduceLT, Int.reduceLE, Int.reduceToNat, hw]
        rw [if_neg (by omega), show (31 * (o : Int) + (q : Int)).toNat = 31 * o + q by omega, h10]
        by_cases h2 : (o : Int) = r
        · rw [if_pos h2, hyes (Or.inl fun h3 => h3.1 h2)]
          rfl
        · rw [if_neg h2]
          by_cases h3 : (o : Int) = wo
          · rw [if_pos h3, hyes (Or.inl fun h4 => h4.2 h3)]
            rfl
          · rw [if_neg h3]
            by_cases h4 : fl σ o q = l
            · rw [if_pos h4, b01_f (p := b ∧ (ot r wo o → ∀ k : Nat, t ≤ k → k < q + 1 → fl σ o k ≠ l)) (fun h5 => h5.2 ⟨h2, h3⟩ q hqt (by omega) h4)]
              rfl
            · rw [if_neg h4, hyes (Or.inr h4)]
              rfl
      · rw [b01_f h1]
        simp (disch := (first | omega | exact (iv_rng _ _ _).1 | exact (iv_rng _ _ _).2)) only [pi_lit, pi_nat, pi_add, pi_sub, pi_mul, pi_neg, pi_le, pi_lt, pi_eq, pi_cn, pi_ci, pi_g, am_b_some, iv_s, iv_ls, lg_s, lg_ls, if_true, if_false, Int.reduceEq, Int.reduceLT, Int.reduceLE, Int.reduceToNat, hw]
        rw [if_neg (by omega), b01_f (p := b ∧ (ot r wo o → ∀ k : Nat, t ≤ k → k < q + 1 → fl σ o k ≠ l)) (fun h5 => h1 ⟨h5.1, fun hot k hk1 hk2 => h5.2 hot k hk1 (by omega)⟩)]
        rfl
    · rintro m s ⟨hqt, rfl⟩
      refine ⟨_, ?_, rfl⟩
      dsimp only
      rw [g_X10_isLiftFree_L21]
      simp (disch := (first | omega | exact (iv_rng _ _ _).1 | exact (iv_rng _ _ _).2)) only [pi_lit, pi_nat, pi_add, pi_sub, pi_mul, pi_neg, pi_le, pi_lt, pi_eq, pi_cn, pi_ci, pi_g, am_b_some, iv_s, iv_ls, lg_s, lg_ls, if_true, if_false, Int.reduceEq, Int.reduceLT, Int.reduceLE, Int.reduceToNat]
      rw [if_pos (by omega)]
  have key := lo_for (fun m (s : Int32 × Int32 × am_M) => g_X10_isLiftFree_L6 (pI r) (pI l) (pI t) m s.1 s.2.1 s.2.2) (fun q s => s = (pI (b01 (∀ o : Nat, o < q → ot r wo o → ∀ k : Nat, t ≤ k → k < t + 3 → fl σ o k ≠ l)), pI (q : Nat), M)) (fun x => x = (pI (b01 (lfr σ r wo l t)), M)) 0 (σ 6).toNat (pI 1, pI 0, M) (by rw [b01_t (p := ∀ o : Nat, o < 0 → ot r wo o → ∀ k : Nat, t ≤ k → k < t + 3 → fl σ o k ≠ l) (fun o ho => by omega)]; rfl) (by omega) (by unfold am_fu; omega) ?_ ?_
  · obtain ⟨x, h3, rfl⟩ := key
    unfold g_X10_isLiftFree
    dsimp only at h3
    simp only [pi_lit]
    erw [h3]
    rw [am_b_some]
    exact b01_c _
  · rintro m q s hq rfl
    left
    refine ⟨(pI (b01 (∀ o : Nat, o < q + 1 → ot r wo o → ∀ k : Nat, t ≤ k → k < t + 3 → fl σ o k ≠ l)), pI (q + 1 : Nat), M), ?_, rfl⟩
    dsimp only
    rw [g_X10_isLiftFree_L6]
    simp (disch := (first | omega | exact (iv_rng _ _ _).1 | exact (iv_rng _ _ _).2)) only [pi_lit, pi_nat, pi_add, pi_sub, pi_mul, pi_neg, pi_le, pi_lt, pi_eq, pi_cn, pi_ci, pi_g, am_b_some, iv_s, iv_ls, lg_s, lg_ls, if_true, if_false, Int.reduceEq, Int.reduceLT, Int.reduceLE, Int.reduceToNat, h6', inner]
    rw [if_neg (by omega)]
    have e : ((∀ o : Nat, o < q → ot r wo o → ∀ k : Nat, t ≤ k → k < t + 3 → fl σ o k ≠ l) ∧ (ot r wo q → ∀ k : Nat, t ≤ k → k < t + 3 → fl σ q k ≠ l)) ↔ (∀ o : Nat, o < q + 1 → ot r wo o → ∀ k : Nat, t ≤ k → k < t + 3 → fl σ o k ≠ l) := ⟨fun x o ho => by
      by_cases h1 : o = q
      · subst h1; exact x.2
      · exact x.1 o (by omega), fun x => ⟨fun o ho => x o (by omega), x q (by omega)⟩⟩
    rw [b01_iff e]
    rfl
  · rintro m s rfl
    refine ⟨(pI (b01 (∀ o : Nat, o < (σ 6).toNat → ot r wo o → ∀ k : Nat, t ≤ k → k < t + 3 → fl σ o k ≠ l)), M), ?_, ?_⟩
    · dsimp only
      rw [g_X10_isLiftFree_L6]
      simp (disch := (first | omega | exact (iv_rng _ _ _).1 | exact (iv_rng _ _ _).2)) only [pi_lit, pi_nat, pi_add, pi_sub, pi_mul, pi_neg, pi_le, pi_lt, pi_eq, pi_cn, pi_ci, pi_g, am_b_some, iv_s, iv_ls, lg_s, lg_ls, if_true, if_false, Int.reduceEq, Int.reduceLT, Int.reduceLE, Int.reduceToNat, h6']
      rw [if_pos (by omega)]
    · have e : (∀ o : Nat, o < (σ 6).toNat → ot r wo o → ∀ k : Nat, t ≤ k → k < t + 3 → fl σ o k ≠ l) ↔ lfr σ r wo l t := ⟨fun x o ho => x o (by omega), fun x o ho => x o (by omega)⟩
      rw [b01_iff e]
/-- the cells behind the lifts are cells -/
def wl (σ : Nat → Int) : Prop := (0 ≤ σ 1 ∧ σ 1 ≤ 2) ∧ ∀ k : Nat, (k : Int) < 2 * σ 1 → 0 ≤ σ (2 + k) ∧ σ (2 + k) < 40
theorem mvs_rng {σ : Nat → Int} (h : wl σ) {c a : Int} (hc : 0 ≤ c ∧ c < 40) (ha : 0 ≤ a ∧ a < 7) : -1 ≤ mvs σ c a ∧ mvs σ c a < 40 := by
  unfold mvs rd
  have h1 := nb_rng (c := c) (a := a) hc.1 hc.2
  by_cases h2 : a - 5 < σ 1
  · by_cases h5 : 5 ≤ a
    · have h3 := h.2 (2 * (a - 5)).toNat (by omega)
      have h4 := h.2 (2 * (a - 5) + 1).toNat (by omega)
      rw [show 2 + (2 * (a - 5)).toNat = (2 + 2 * (a - 5)).toNat by omega] at h3
      rw [show 2 + (2 * (a - 5) + 1).toNat = (3 + 2 * (a - 5)).toNat by omega] at h4
      repeat' split
      all_goals omega
    · rw [if_pos (by omega : a < 5)]
      split <;> omega
  · rw [if_neg h2]
    repeat' split
    all_goals omega
theorem s_isLegal {σ : Nat → Int} {r wo c a : Int} {t : Nat} {M : am_M} (h : MS σ wo M) (hwl : wl σ) (hr : 0 ≤ r ∧ r < 5) (hc : 0 ≤ c ∧ c < 40) (ha : 0 ≤ a ∧ a < 7) (ht : t < 30) : g_X10_isLegal (pI r) (pI c) (pI a) (pI t) M = some (pI (b01 (leg σ r wo c a t)), M) := by
  have hs := h.1
  have hm := mvs_rng hwl hc ha
  have hk := tk_pos a
  unfold g_X10_isLegal
  rw [s_mmoved M hc.1 hc.2 ha.1 ha.2, am_b_some, hs]
  simp (disch := (first | omega | exact (iv_rng _ _ _).1 | exact (iv_rng _ _ _).2)) only [pi_lit, pi_nat, pi_add, pi_sub, pi_mul, pi_neg, pi_le, pi_lt, pi_eq, pi_cn, pi_ci, pi_g, am_b_some, iv_s, iv_ls, lg_s, lg_ls, if_true, if_false, Int.reduceEq, Int.reduceLT, Int.reduceLE, Int.reduceToNat, s_takes]
  by_cases h1 : mvs σ c a = -1
  · rw [if_pos h1, b01_f (fun h2 => h2.1 h1)]
  · rw [if_neg h1]
    by_cases h2 : 30 < (t : Int) + tk a
    · rw [if_pos h2, b01_f (fun h3 => by have := h3.2.1; omega)]
    · rw [if_neg h2]
      have e := s_isFree (c := mvs σ c a) (t := (t + tk a).toNat) h hr (by omega) (by omega)
      rw [show (((t + tk a).toNat : Nat) : Int) = t + tk a by omega] at e
      rw [e, am_b_some]
      by_cases h3 : fre σ r wo (mvs σ c a) (t + tk a).toNat
      · rw [b01_t h3]
        simp (disch := (first | omega | exact (iv_rng _ _ _).1 | exact (iv_rng _ _ _).2)) only [pi_lit, pi_nat, pi_add, pi_sub, pi_mul, pi_neg, pi_le, pi_lt, pi_eq, pi_cn, pi_ci, pi_g, am_b_some, iv_s, iv_ls, lg_s, lg_ls, if_true, if_false, Int.reduceEq, Int.reduceLT, Int.reduceLE, Int.reduceToNat]
        by_cases h4 : a < 5
        · rw [if_pos h4]
          by_cases h5 : a = 0
          · rw [if_pos h5, b01_t (p := leg σ r wo c a t) ⟨h1, by omega, h3, by rw [if_neg (by omega)]; exact Or.inl h5⟩]
          · rw [if_neg h5, s_isSwap h hr hc (by omega) ht, am_b_some]
            by_cases h6 : swp σ r wo c (mvs σ c a) t
            · rw [b01_t h6, b01_f (p := leg σ r wo c a t) (fun h7 => by
                have := h7.2.2.2
                rw [if_neg (by omega)] at this
                exact this.elim h5 (fun x => x h6))]
              rfl
            · rw [b01_f h6, b01_t (p := leg σ r wo c a t) ⟨h1, by omega, h3, by rw [if_neg (by omega)]; exact Or.inr h6⟩]
              rfl
        · rw [if_neg h4, s_isLiftFree h hr (by omega) (by have := tk_ride (a := a) (by omega); omega), am_b_some]
          have e2 : lfr σ r wo (a - 5) t ↔ leg σ r wo c a t := ⟨fun x => ⟨h1, by omega, h3, by rw [if_pos (by omega)]; exact x⟩, fun x => by
            have := x.2.2.2
            rw [if_pos (by omega)] at this
            exact this⟩
          rw [b01_iff e2]
          exact b01_c _
      · rw [b01_f h3, b01_f (p := leg σ r wo c a t) (fun h4 => h3 h4.2.2.1)]
        rfl
end PT
