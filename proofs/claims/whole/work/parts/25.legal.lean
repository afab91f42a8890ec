/-! which actions are legal, by the model -/
section PU
noncomputable def b01 (p : Prop) : Int := @ite Int p (Classical.propDecidable p) 1 0
theorem b01_t {p : Prop} (h : p) : b01 p = 1 := by unfold b01; rw [if_pos h]
theorem b01_f {p : Prop} (h : ¬ p) : b01 p = 0 := by unfold b01; rw [if_neg h]
theorem b01_rng (p : Prop) : 0 ≤ b01 p ∧ b01 p ≤ 1 := by
  by_cases h : p
  · rw [b01_t h]; omega
  · rw [b01_f h]; omega
theorem b01_zero {p : Prop} : (pI (b01 p) = pI 0) = ¬ p := by
  apply propext
  by_cases h : p
  · rw [b01_t h]
    exact ⟨fun e => absurd e (by decide +kernel), fun e => absurd h e⟩
  · rw [b01_f h]
    exact ⟨fun _ => h, fun _ => rfl⟩
theorem b01_c {α : Type} {p : Prop} (k : Option α) : am_c (pI (b01 p) = 0 ∨ pI (b01 p) = 1) k = k := by
  apply am_c_true
  by_cases h : p
  · right; rw [b01_t h]; rfl
  · left; rw [b01_f h]; rfl
theorem b01_c2 {α : Type} {p : Prop} (k : Option α) : am_c (pI (b01 p) = pI 0 ∨ pI (b01 p) = pI 1) k = k := b01_c k
theorem b01_iff {p q : Prop} (h : p ↔ q) : b01 p = b01 q := by
  by_cases hp : p
  · rw [b01_t hp, b01_t (h.mp hp)]
  · rw [b01_f hp, b01_f (fun hq => hp (h.mpr hq))]
theorem b01_ite {p : Prop} [Decidable p] : (if p then (1 : Int) else 0) = b01 p := by
  by_cases h : p
  · rw [if_pos h, b01_t h]
  · rw [if_neg h, b01_f h]
/-- robots that are in the way -/
def ot (r wo o : Int) : Prop := o ≠ r ∧ o ≠ wo
def fre (σ : Nat → Int) (r wo c : Int) (t : Nat) : Prop := σ (8 + c).toNat ≠ 1 ∧ ∀ o : Nat, (o : Int) < σ 6 → ot r wo o → fp σ o t ≠ c
def swp (σ : Nat → Int) (r wo c d : Int) (t : Nat) : Prop := ∃ o : Nat, (o : Int) < σ 6 ∧ ot r wo o ∧ fp σ o t = d ∧ fp σ o (t + 1) = c
def lfr (σ : Nat → Int) (r wo l : Int) (t : Nat) : Prop := ∀ o : Nat, (o : Int) < σ 6 → ot r wo o → ∀ k : Nat, t ≤ k → k < t + 3 → fl σ o k ≠ l
def leg (σ : Nat → Int) (r wo c a : Int) (t : Nat) : Prop := mvs σ c a ≠ -1 ∧ t + tk a ≤ 30 ∧ fre σ r wo (mvs σ c a) (t + tk a).toNat ∧ (if 5 ≤ a then lfr σ r wo (a - 5) t else a = 0 ∨ ¬ swp σ r wo c (mvs σ c a) t)
/-- the model's rows say what is foreseen -/
def MS (σ : Nat → Int) (wo : Int) (M : am_M) : Prop := sg M = σ ∧ iv M 174 11 = wo ∧ (0 ≤ σ 6 ∧ σ 6 ≤ 5) ∧ ∀ r t : Nat, r < σ 6 → t < 31 → iv M 180 (31 * r + t) = fp σ r t ∧ iv M 181 (31 * r + t) = fl σ r t
theorem MS_six {σ : Nat → Int} {wo : Int} {M : am_M} (h : MS σ wo M) : iv M 175 6 = σ 6 := by rw [← h.1]; rfl
theorem s_isFree {σ : Nat → Int} {r wo c : Int} {t : Nat} {M : am_M} (h : MS σ wo M) (hr : 0 ≤ r ∧ r < 5) (hc : 0 ≤ c ∧ c < 40) (ht : t < 31) : g_X10_isFree (pI r) (pI c) (pI t) M = some (pI (b01 (fre σ r wo c t)), M) := by
  obtain ⟨hs, hw, h6, hp⟩ := id h
  have h6' := MS_six h
  have key : ∀ b : Prop, g_X10_isFree_L18 (pI r) (pI c) (pI t) am_fu (pI (b01 b)) (pI 0) M = some (pI (b01 (b ∧ ∀ o : Nat, (o : Int) < σ 6 → ot r wo o → fp σ o t ≠ c)), M) := by
    intro b
    have key := lo_for (fun m (s : Int32 × Int32 × am_M) => g_X10_isFree_L18 (pI r) (pI c) (pI t) m s.1 s.2.1 s.2.2) (fun k s => s = (pI (b01 (b ∧ ∀ o : Nat, o < k → ot r wo o → fp σ o t ≠ c)), pI (k : Nat), M)) (fun x => x = (pI (b01 (b ∧ ∀ o : Nat, (o : Int) < σ 6 → ot r wo o → fp σ o t ≠ c)), M)) 0 (σ 6).toNat (pI (b01 b), pI 0, M) (by rw [b01_iff (p := b ∧ ∀ o : Nat, o < 0 → ot r wo o → fp σ o t ≠ c) (q := b) ⟨fun x => x.1, fun x => ⟨x, fun o ho => by omega⟩⟩]; rfl) (by omega) (by unfold am_fu; omega) ?_ ?_
    · obtain ⟨x, h3, h4⟩ := key
      subst h4
      exact h3
    · rintro m k s hk rfl
      left
      refine ⟨(pI (b01 (b ∧ ∀ o : Nat, o < k + 1 → ot r wo o → fp σ o t ≠ c)), pI (k + 1 : Nat), M), ?_, rfl⟩
      dsimp only
      rw [g_X10_isFree_L18]
      by_cases h1 : (b ∧ ∀ o : Nat, o < k → ot r wo o → fp σ o t ≠ c)
      · rw [b01_t h1]
        have h9 := iv_rng M 174 11
        rw [hw] at h9
        have h10 := (hp k t (by omega) ht).1
        simp (disch := (first | omega | exact (iv_rng _ _ _).1 | exact (iv_rng _ _ _).2)) only [pi_lit, pi_nat, pi_add, pi_sub, pi_mul, pi_neg, pi_le, pi_lt, pi_eq, pi_cn, pi_ci, pi_g, am_b_some, iv_s, iv_ls, lg_s, lg_ls, h6', hw, show ((6 : Int).toNat) = 6 from rfl]
        rw [if_neg (by omega), if_neg (by omega), show (31 * (k : Int) + (t : Int)).toNat = 31 * k + t by omega, h10]
        by_cases h2 : (k : Int) = r
        · rw [if_pos h2, b01_t (p := b ∧ ∀ o : Nat, o < k + 1 → ot r wo o → fp σ o t ≠ c) ⟨h1.1, fun o ho hot => by
            by_cases h3 : o = k
            · subst h3; exact absurd h2 hot.1
            · exact h1.2 o (by omega) hot⟩]
          rfl
        · rw [if_neg h2]
          by_cases h3 : (k : Int) = wo
          · rw [if_pos h3, b01_t (p := b ∧ ∀ o : Nat, o < k + 1 → ot r wo o → fp σ o t ≠ c) ⟨h1.1, fun o ho hot => by
              by_cases h4 : o = k
              · subst h4; exact absurd h3 hot.2
              · exact h1.2 o (by omega) hot⟩]
            rfl
          · rw [if_neg h3]
            have h11 : -2147483648 ≤ fp σ k t ∧ fp σ k t < 2147483648 := by rw [← h10]; exact iv_rng _ _ _
            by_cases h4 : fp σ k t = c
            · rw [if_pos h4, b01_f (p := b ∧ ∀ o : Nat, o < k + 1 → ot r wo o → fp σ o t ≠ c) (fun h5 => h5.2 k (by omega) ⟨h2, h3⟩ h4)]
              rfl
            · rw [if_neg h4, b01_t (p := b ∧ ∀ o : Nat, o < k + 1 → ot r wo o → fp σ o t ≠ c) ⟨h1.1, fun o ho hot => by
                by_cases h5 : o = k
                · subst h5; exact h4
                · exact h1.2 o (by omega) hot⟩]
              rfl
      · rw [b01_f h1]
        simp (disch := (first | omega | exact (iv_rng _ _ _).1 | exact (iv_rng _ _ _).2)) only [pi_lit, pi_nat, pi_add, pi_sub, pi_mul, pi_neg, pi_le, pi_lt, pi_eq, pi_cn, pi_ci, pi_g, am_b_some, iv_s, iv_ls, lg_s, lg_ls, h6', hw, show ((6 : Int).toNat) = 6 from rfl]
        rw [if_neg (by omega), if_pos trivial, b01_f (p := b ∧ ∀ o : Nat, o < k + 1 → ot r wo o → fp σ o t ≠ c) (fun h5 => h1 ⟨h5.1, fun o ho => h5.2 o (by omega)⟩)]
        rfl
    · rintro m s rfl
      refine ⟨(pI (b01 (b ∧ ∀ o : Nat, o < (σ 6).toNat → ot r wo o → fp σ o t ≠ c)), M), ?_, ?_⟩
      · dsimp only
        rw [g_X10_isFree_L18]
        simp (disch := (first | omega | exact (iv_rng _ _ _).1 | exact (iv_rng _ _ _).2)) only [pi_lit, pi_nat, pi_add, pi_sub, pi_mul, pi_neg, pi_le, pi_lt, pi_eq, pi_cn, pi_ci, pi_g, am_b_some, iv_s, iv_ls, lg_s, lg_ls, h6', show ((6 : Int).toNat) = 6 from rfl]
        rw [if_pos (by omega)]
      · rw [b01_iff]
        exact ⟨fun x => ⟨x.1, fun o ho => x.2 o (by omega)⟩, fun x => ⟨x.1, fun o ho => x.2 o (by omega)⟩⟩
  unfold g_X10_isFree
  have k1 := key True
  have k0 := key False
  rw [b01_t trivial] at k1
  rw [b01_f not_false] at k0
  rw [s_misWall M hc.1 hc.2, am_b_some, hs]
  by_cases h1 : σ (8 + c).toNat = 1
  · rw [if_pos h1]
    simp (disch := (first | omega | exact (iv_rng _ _ _).1 | exact (iv_rng _ _ _).2)) only [pi_lit, pi_nat, pi_add, pi_sub, pi_mul, pi_neg, pi_le, pi_lt, pi_eq, pi_cn, pi_ci, pi_g, am_b_some, iv_s, iv_ls, lg_s, lg_ls, k0, b01_c2]
    rw [if_neg (by omega)]
    have e : (False ∧ ∀ o : Nat, (o : Int) < σ 6 → ot r wo o → fp σ o t ≠ c) ↔ fre σ r wo c t := ⟨fun x => x.1.elim, fun x => absurd h1 x.1⟩
    exact (b01_c _).trans (congrArg (fun x => some (pI x, M)) (b01_iff e))
  · rw [if_neg h1]
    simp (disch := (first | omega | exact (iv_rng _ _ _).1 | exact (iv_rng _ _ _).2)) only [pi_lit, pi_nat, pi_add, pi_sub, pi_mul, pi_neg, pi_le, pi_lt, pi_eq, pi_cn, pi_ci, pi_g, am_b_some, iv_s, iv_ls, lg_s, lg_ls, k1, b01_c2]
    rw [if_pos trivial]
    have e : (True ∧ ∀ o : Nat, (o : Int) < σ 6 → ot r wo o → fp σ o t ≠ c) ↔ fre σ r wo c t := ⟨fun x => ⟨h1, x.2⟩, fun x => ⟨trivial, x.2⟩⟩
    exact (b01_c _).trans (congrArg (fun x => some (pI x, M)) (b01_iff e))
end PU
