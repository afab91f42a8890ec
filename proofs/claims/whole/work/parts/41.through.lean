/-! the class's cost through an action -/
section PZ
/-- no wait is barred -/
def BW (M : am_M) : Prop := ∀ t y : Nat, t < 30 → y < 40 → pb (am_lg M 163 (7 * t)) y = false
theorem BW_fr {M N : am_M} (h : BW M) {X : List Nat} (hf : fr X M N) (h2 : 163 ∉ X) : BW N := fun t y ht hy => by rw [fr_l hf h2]; exact h t y ht hy
theorem leg_cls {σ : Nat → Int} {r wo : Int} {M : am_M} (h : FM σ r wo M) (hb : BW M) (hwl : wl σ) {t y a c : Nat} (hy : y < 40) (ha : a < 7) (ht : (t : Int) + tk a ≤ 30) (hm : mvs σ y a = c) : c < 40 ∧ (leg σ r wo y a t ↔ (fre σ r wo c (t + tk a).toNat ∧ pb (am_lg M 163 (7 * t + a)) y = false)) := by
  have htp := tk_pos a
  have hr := mvs_rng hwl (c := (y : Int)) (a := (a : Int)) (by omega) (by omega)
  have hc : c < 40 := by omega
  refine ⟨hc, ?_⟩
  have h1 := h.1 (t + tk a).toNat c (by omega) hc
  have h2 : fre σ r wo c (t + tk a).toNat ↔ pb (am_lg M 162 (t + tk a).toNat) c = false := by
    constructor
    · intro q
      by_cases h4 : pb (am_lg M 162 (t + tk a).toNat) c = true
      · exact absurd q (h1.mp h4)
      · simpa using h4
    · intro q
      by_cases h4 : fre σ r wo c (t + tk a).toNat
      · exact h4
      · rw [h1.mpr h4] at q; cases q
  rw [h2]
  by_cases a0 : a = 0
  · subst a0
    have e : (c : Int) = y := by rw [← hm]; exact mvs_zero σ y
    have e : c = y := by omega
    subst e
    have := leg_wait h (t := t) (y := c) (by rw [show ((0 : Nat) : Int) = 0 from rfl, tk_zero] at ht; omega) hy
    rw [show ((0 : Nat) : Int) = 0 from rfl, this, tk_zero, show ((t : Int) + 1).toNat = t + 1 by omega]
    exact ⟨fun q => ⟨q, hb t c (by rw [show ((0 : Nat) : Int) = 0 from rfl, tk_zero] at ht; omega) hy⟩, fun q => q.1⟩
  · by_cases a5 : a < 5
    · have e1 : tk a = 1 := tk_one (by omega)
      have hn : nb y a = c := by rw [← hm]; unfold mvs; rw [if_neg (by omega), if_pos (by omega)]
      have := leg_move h (t := t) (y := y) (a := a) (by omega) hy (by omega) hc hn
      rw [this, e1, show ((t : Int) + 1).toNat = t + 1 by omega]
    · obtain ⟨l, rfl⟩ : ∃ l, a = 5 + l := ⟨a - 5, by omega⟩
      have e1 : tk (5 + l : Nat) = 3 := tk_ride (by omega)
      have hn : rd σ y l = c := by rw [← hm]; unfold mvs; rw [if_neg (by omega), if_neg (by omega), show ((5 + l : Nat) : Int) - 5 = l by omega]
      have := leg_ride h (t := t) (y := y) (l := l) (by omega) hy (by omega) hc hn
      rw [this, e1, show ((t : Int) + 3).toNat = t + 3 by omega, show 7 * t + (5 + l) = 7 * t + 5 + l by omega]
theorem s_costThrough {σ : Nat → Int} {r wo : Int} {e t x a : Nat} {M : am_M} (h : FM σ r wo M) (hb : BW M) (hwl : wl σ) (hF : FL σ M) (hx : x < 40) (ha : a < 7) (he : e ≤ 30) (ht : t < e) (C : Nat → Int → Int) (hC0 : ∀ t x, 0 ≤ C t x ∧ C t x ≤ 1000000) (hC : ∀ t' x' : Nat, t < t' → t' ≤ e → x' < 40 → iv M 165 (40 * t' + x') = C t' x') (hn : ∀ t' x' : Nat, t < t' → t' ≤ e → x' < 40 → ¬ fre σ r wo x' t' → C t' x' = 1000000) : ∃ v : Int, g_X0_costThrough (pI t) (pI x) (pI a) (pI e) M = some (pI v, M) ∧ 0 ≤ v ∧ v ≤ 1000002 ∧ (v = thr σ r wo e C t x a ∨ (1000000 ≤ v ∧ 1000000 ≤ thr σ r wo e C t x a)) := by
  have hm := hF.2.2.2 x a hx ha
  have hmr := mvs_rng hwl (c := (x : Int)) (a := (a : Int)) (by omega) (by omega)
  obtain ⟨m, em⟩ : ∃ m, m = mvs σ x a := ⟨_, rfl⟩
  rw [← em] at hm hmr
  have htp := tk_pos a
  have hcs := cst_rng a
  have g1 : g_X9_at (2 + 2) 280 (pI ((x : Int) * 7 + a)) M = some (pI m, M) := by
    rw [s_at1 _ _ _ (by omega) (by omega) (by omega), show ((x : Int) * 7 + a).toNat = 7 * x + a by omega, hm]
  have g2 : g_X9_ticksOf (pI a) M = some (pI (tk a), M) := s_ticksOf M (by omega) (by omega)
  have g3 : g_X9_costOf (pI a) M = some (pI (cst a), M) := s_costOf M (by omega) (by omega)
  unfold g_X0_costThrough
  simp (disch := (first | omega | exact (iv_rng _ _ _).1 | exact (iv_rng _ _ _).2)) only [pi_lit, pi_nat, pi_add, pi_sub, pi_mul, pi_neg, pi_le, pi_lt, pi_eq, pi_cn, pi_ci, pi_g, am_b_some, iv_s, iv_ls, lg_s, lg_ls, if_true, if_false, Int.reduceEq, Int.reduceLT, Int.reduceLE, Int.reduceToNat, g1, g2]
  by_cases c1 : m < 0
  · rw [if_pos c1]
    refine ⟨1000000, rfl, by omega, by omega, Or.inr ⟨by omega, ?_⟩⟩
    unfold thr
    rw [cif_f (fun q => q.1.1 (by omega))]
    exact Int.le_refl _
  · rw [if_neg c1]
    by_cases c2 : (t : Int) + tk a ≤ e
    · rw [if_pos c2]
      obtain ⟨hc, hl⟩ := leg_cls h hb hwl (t := t) (y := x) (a := a) (c := m.toNat) hx ha (by omega) (by omega)
      rw [show ((m.toNat : Nat) : Int) = m by omega] at hl
      have hv := hC (t + tk a).toNat m.toNat (by omega) (by omega) hc
      have hv0 := hC0 (t + tk a).toNat m
      have hf := hn (t + tk a).toNat m.toNat (by omega) (by omega) hc
      rw [show ((m.toNat : Nat) : Int) = m by omega] at hv hf
      obtain ⟨v, ev⟩ : ∃ v, v = C (t + tk a).toNat m := ⟨_, rfl⟩
      rw [← ev] at hv hv0 hf
      have g4 : g_X9_at 165 1240 (pI (((t : Int) + tk a) * 40 + m)) M = some (pI v, M) := by
        rw [s_at1 _ _ _ (by omega) (by omega) (by omega), show (((t : Int) + tk a) * 40 + m).toNat = 40 * ((t : Int) + tk a).toNat + m.toNat by omega, hv]
      have g5 : g_X9_maskAt 163 210 (pI ((t : Int) * 7 + a)) M = some (am_lg M 163 (7 * t + a), M) := by
        rw [s_maskAt1 _ _ _ (by omega) (by omega) (by omega), show ((t : Int) * 7 + a).toNat = 7 * t + a by omega]
      simp (disch := (first | omega | exact (iv_rng _ _ _).1 | exact (iv_rng _ _ _).2)) only [pi_lit, pi_nat, pi_add, pi_sub, pi_mul, pi_neg, pi_le, pi_lt, pi_eq, pi_cn, pi_ci, pi_g, am_b_some, iv_s, iv_ls, lg_s, lg_ls, if_true, if_false, Int.reduceEq, Int.reduceLT, Int.reduceLE, Int.reduceToNat, g3, g4, g5, s_bit]
      have et : leg σ r wo x a t → thr σ r wo e C t x a = cst a + v := fun q => by
        unfold thr
        rw [cif_t ⟨q, c2⟩, ← em, ev]
      have ef : ¬ leg σ r wo x a t → thr σ r wo e C t x a = 1000000 := fun q => by
        unfold thr
        rw [cif_f (fun q2 => q q2.1)]
      by_cases c3 : 1000000 ≤ v
      · rw [if_pos c3]
        refine ⟨1000000, rfl, by omega, by omega, Or.inr ⟨by omega, ?_⟩⟩
        by_cases c4 : leg σ r wo x a t
        · rw [et c4]; omega
        · rw [ef c4]; omega
      · rw [if_neg c3]
        have hfr : fre σ r wo m (t + tk a).toNat := by
          by_cases c4 : fre σ r wo m (t + tk a).toNat
          · exact c4
          · exact absurd (hf c4) (by omega)
        by_cases c4 : pb (am_lg M 163 (7 * t + a)) x = true
        · refine ⟨1000000, ?_, by omega, by omega, Or.inr ⟨by omega, ?_⟩⟩
          · exact if_neg (cmpz_f (a := (x : Int)) (by omega) (by omega) (by rw [Int.toNat_natCast]; exact c4))
          · rw [ef (fun q => by rw [(hl.mp q).2] at c4; cases c4)]
            omega
        · refine ⟨cst a + v, ?_, by omega, by omega, Or.inl ?_⟩
          · exact if_pos (cmpz_t (a := (x : Int)) (by omega) (by omega) (by rw [Int.toNat_natCast]; simpa using c4))
          · rw [et (hl.mpr ⟨hfr, by simpa using c4⟩)]
    · rw [if_neg c2]
      refine ⟨1000000, rfl, by omega, by omega, Or.inr ⟨by omega, ?_⟩⟩
      unfold thr
      rw [cif_f (fun q => c2 q.2)]
      exact Int.le_refl _
end PZ
