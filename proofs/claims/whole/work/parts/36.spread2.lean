/-! the class spreads through lifts -/
section PJ
def tR (P : Nat → Nat → Prop) (N : am_M) : Prop := ∀ t, t ≤ 30 → inb (am_lg N 164 t) ∧ ∀ c, c < 40 → (pb (am_lg N 164 t) c = true ↔ P t c)
theorem inb_or {x y : Int64} (hx : inb x) (hy : inb y) : inb (x ||| y) := fun c hc => by rw [pb_or, hx c hc, hy c hc]; rfl
theorem inb_and {x y : Int64} (hx : inb x) : inb (x &&& y) := fun c hc => by rw [pb_and, hx c hc]; rfl
theorem inb_zero : inb 0 := fun c _ => pb_zero c
theorem inb_bm (a : Int) : inb (bm a) := fun c hc => by
  rw [pb_bm]
  exact decide_eq_false (by omega)
/-- the floor of the first world, as the model's row has it -/
def FL (σ : Nat → Int) (M : am_M) : Prop := iv M 2 3 = σ 1 ∧ (∀ k : Nat, (k : Int) < 2 * σ 1 → iv M 5 k = σ (2 + k)) ∧ (∀ c : Nat, c < 40 → iv M 3 c = σ (8 + c)) ∧ ∀ c a : Nat, c < 40 → a < 7 → iv M 4 (7 * c + a) = mvs σ c a
theorem FL_fr {σ : Nat → Int} {M N : am_M} (h : FL σ M) {X : List Nat} (hf : fr X M N) (h2 : 2 ∉ X) (h3 : 3 ∉ X) (h4 : 4 ∉ X) (h5 : 5 ∉ X) : FL σ N := by
  refine ⟨by rw [fr_i hf h2]; exact h.1, fun k hk => by rw [fr_i hf h5]; exact h.2.1 k hk, fun c hc => by rw [fr_i hf h3]; exact h.2.2.1 c hc, fun c a hc ha => by rw [fr_i hf h4]; exact h.2.2.2 c a hc ha⟩
theorem cmpz_t {x : Int64} {a : Int} (h1 : 0 ≤ a) (h2 : a < 40) (h : pb x a.toNat = false) : lg_cmp (x &&& bm a) 0 = pI 0 := by
  rw [cmp_zero, and_bm_zero x h1 h2]
  exact h
theorem cmpz_f {x : Int64} {a : Int} (h1 : 0 ≤ a) (h2 : a < 40) (h : pb x a.toNat = true) : ¬ lg_cmp (x &&& bm a) 0 = pI 0 := by
  rw [cmp_zero, and_bm_zero x h1 h2, h]
  exact fun e => absurd e (by decide)
theorem s_spread118 {σ : Nat → Int} {t : Nat} {x : Int64} {M : am_M} (hwl : wl σ) (hF : FL σ M) (ht : t < 30) (P : Nat → Nat → Prop) (hP : tR P M) : ∃ N, g_X0_spread_L118 (pI t) x am_fu (pI 0) M = some ((), N) ∧ fr [164] M N ∧ tR (fun t' c => P t' c ∨ (t' = t + 3 ∧ pb (am_lg M 162 (t + 3)) c = false ∧ ∃ l d : Nat, (l : Int) < σ 1 ∧ d < 40 ∧ pb x d = true ∧ pb (am_lg M 163 (7 * t + 5 + l)) d = false ∧ rd σ d l = c)) N := by
  have key := lo_for (fun m (s : Int32 × am_M) => g_X0_spread_L118 (pI t) x m s.1 s.2) (fun k s => s.1 = pI (k : Nat) ∧ fr [164] M s.2 ∧ tR (fun t' c => P t' c ∨ (t' = t + 3 ∧ pb (am_lg M 162 (t + 3)) c = false ∧ ∃ l d : Nat, l < k ∧ d < 40 ∧ pb x d = true ∧ pb (am_lg M 163 (7 * t + 5 + l)) d = false ∧ rd σ d l = c)) s.2) (fun y => fr [164] M y.2 ∧ tR (fun t' c => P t' c ∨ (t' = t + 3 ∧ pb (am_lg M 162 (t + 3)) c = false ∧ ∃ l d : Nat, (l : Int) < σ 1 ∧ d < 40 ∧ pb x d = true ∧ pb (am_lg M 163 (7 * t + 5 + l)) d = false ∧ rd σ d l = c)) y.2) 0 (σ 1).toNat (pI 0, M) ⟨rfl, fr_refl _ _, fun t' ht' => ⟨(hP t' ht').1, fun c hc => ((hP t' ht').2 c hc).trans ⟨Or.inl, fun h => h.elim id (fun ⟨_, _, l, d, h1, _⟩ => by omega)⟩⟩⟩ (by omega) (by unfold am_fu; have := hwl.1; omega) ?_ ?_
  · obtain ⟨⟨u9, N⟩, h3, h4⟩ := key
    exact ⟨N, h3, h4⟩
  · rintro m l ⟨a8, N⟩ hl ⟨e1, hf, hp⟩
    dsimp only at e1 hf hp
    subst e1
    left
    have h1 := hwl.1
    have hFN := FL_fr hF hf (by decide) (by decide) (by decide) (by decide)
    have hw0 := hwl.2 (2 * l) (by omega)
    have hw1 := hwl.2 (2 * l + 1) (by omega)
    have he0 := hFN.2.1 (2 * l) (by omega)
    have he1 := hFN.2.1 (2 * l + 1) (by omega)
    obtain ⟨p, hpe⟩ : ∃ p, p = σ (2 + 2 * l) := ⟨_, rfl⟩
    obtain ⟨q, hqe⟩ : ∃ q, q = σ (2 + (2 * l + 1)) := ⟨_, rfl⟩
    rw [← hpe] at hw0 he0
    rw [← hqe] at hw1 he1
    obtain ⟨ri, hri⟩ : ∃ ri, ri = x &&& (am_lg N 163 (7 * t + 5 + l) ^^^ (-1 : Int64)) := ⟨_, rfl⟩
    have hrd : ∀ d c : Nat, d < 40 → c < 40 → (rd σ d l = c ↔ ((d : Int) = p ∧ (c : Int) = q) ∨ ((d : Int) = q ∧ (c : Int) = p)) := fun d c hd hc => by
      unfold rd
      rw [if_pos (by omega), show (2 + 2 * (l : Int)).toNat = 2 + 2 * l by omega, show (3 + 2 * (l : Int)).toNat = 2 + (2 * l + 1) by omega, ← hpe, ← hqe]
      constructor
      · intro h; split at h
        · left; omega
        · split at h
          · right; omega
          · omega
      · rintro (⟨h2, h3⟩ | ⟨h2, h3⟩)
        · rw [if_pos h2.symm, h3]
        · split
          · omega
          · rw [if_pos h2.symm, h3]
    -- the two sets
    obtain ⟨A, hA⟩ : ∃ A, A = (if pb ri p.toNat = true then bm q else 0) := ⟨_, rfl⟩
    obtain ⟨B, hB⟩ : ∃ B, B = (if pb ri q.toNat = true then bm p else 0) := ⟨_, rfl⟩
    have q1 : g_X0_spread_L118 (pI t) x (m + 1) (pI (l : Nat)) N = g_X0_spread_J227 (g_X0_spread_L118 (pI t) x m) (pI t) x (pI (l : Nat)) A B N := by
      rw [g_X0_spread_L118]
      simp (disch := (first | omega | exact (iv_rng _ _ _).1 | exact (iv_rng _ _ _).2)) only [pi_lit, pi_nat, pi_add, pi_sub, pi_mul, pi_neg, pi_le, pi_lt, pi_eq, pi_cn, pi_ci, pi_g, am_b_some, iv_s, iv_ls, lg_s, lg_ls, if_true, if_false, Int.reduceEq, Int.reduceLT, Int.reduceLE, Int.reduceToNat, hFN.1, s_maskAt1, s_at1, s_bit]
      rw [if_neg (by omega)]
      rw [show ((t : Int) * 7 + 5 + (l : Int)).toNat = 7 * t + 5 + l by omega, show (2 * (l : Int)).toNat = 2 * l by omega, show (2 * (l : Int) + 1).toNat = 2 * l + 1 by omega, show (2 + 3 : Nat) = 5 from rfl, he0, he1, ← hri]
      have q2 : ∀ Z : Int64, g_X0_spread_J211 (g_X0_spread_L118 (pI t) x m) (pI t) x (pI (l : Nat)) ri (bm p) (bm q) Z N = g_X0_spread_J227 (g_X0_spread_L118 (pI t) x m) (pI t) x (pI (l : Nat)) Z B N := fun Z => by
        unfold g_X0_spread_J211
        rw [hB]
        by_cases h4 : pb ri q.toNat = true
        · rw [if_pos h4]
          exact if_neg (cmpz_f hw1.1 hw1.2 h4)
        · rw [if_neg h4]
          exact if_pos (cmpz_t hw1.1 hw1.2 (by simpa using h4))
      rw [q2, q2, hA]
      by_cases h4 : pb ri p.toNat = true
      · rw [if_pos h4]
        exact if_neg (cmpz_f hw0.1 hw0.2 h4)
      · rw [if_neg h4]
        exact if_pos (cmpz_t hw0.1 hw0.2 (by simpa using h4))
    have hAB : ∀ c : Nat, c < 40 → (pb (A ||| B) c = true ↔ ∃ d : Nat, d < 40 ∧ pb x d = true ∧ pb (am_lg M 163 (7 * t + 5 + l)) d = false ∧ rd σ d l = c) := fun c hc => by
      have hr : ∀ d : Nat, d < 40 → (pb ri d = true ↔ pb x d = true ∧ pb (am_lg M 163 (7 * t + 5 + l)) d = false) := fun d hd => by
        rw [hri, pb_and, pb_not _ (by omega), Bool.and_eq_true, Bool.not_eq_true', fr_l hf (by decide)]
      have hA2 : pb A c = true ↔ pb ri p.toNat = true ∧ (c : Int) = q := by
        rw [hA]
        by_cases h4 : pb ri p.toNat = true
        · rw [if_pos h4, pb_bm, decide_eq_true_eq]; exact ⟨fun h => ⟨h4, h.2.2⟩, fun h => ⟨by omega, by omega, h.2⟩⟩
        · rw [if_neg h4, pb_zero]; exact ⟨fun h => (by cases h), fun h => absurd h.1 h4⟩
      have hB2 : pb B c = true ↔ pb ri q.toNat = true ∧ (c : Int) = p := by
        rw [hB]
        by_cases h4 : pb ri q.toNat = true
        · rw [if_pos h4, pb_bm, decide_eq_true_eq]; exact ⟨fun h => ⟨h4, h.2.2⟩, fun h => ⟨by omega, by omega, h.2⟩⟩
        · rw [if_neg h4, pb_zero]; exact ⟨fun h => (by cases h), fun h => absurd h.1 h4⟩
      rw [pb_or, Bool.or_eq_true, hA2, hB2, hr p.toNat (by omega), hr q.toNat (by omega)]
      constructor
      · rintro (⟨h4, h5⟩ | ⟨h4, h5⟩)
        · exact ⟨p.toNat, by omega, h4.1, h4.2, (hrd p.toNat c (by omega) hc).mpr (Or.inl ⟨by omega, h5⟩)⟩
        · exact ⟨q.toNat, by omega, h4.1, h4.2, (hrd q.toNat c (by omega) hc).mpr (Or.inr ⟨by omega, h5⟩)⟩
      · rintro ⟨d, hd, h4, h5, h6⟩
        rcases (hrd d c hd hc).mp h6 with ⟨h7, h8⟩ | ⟨h7, h8⟩
        · left; rw [show p.toNat = d by omega]; exact ⟨⟨h4, h5⟩, h8⟩
        · right; rw [show q.toNat = d by omega]; exact ⟨⟨h4, h5⟩, h8⟩
    have hinAB : inb (A ||| B) := inb_or (by rw [hA]; split; exact inb_bm _; exact inb_zero) (by rw [hB]; split; exact inb_bm _; exact inb_zero)
    by_cases h3 : t + 3 ≤ 30
    · refine ⟨(pI (l + 1 : Nat), am_ls N 164 (t + 3) (am_lg N 164 (t + 3) ||| ((A ||| B) &&& (am_lg N 162 (t + 3) ^^^ (-1 : Int64))))), ?_, rfl, fr_trans hf (fr_ls (by simp)), fun t' ht' => ?_⟩
      · dsimp only
        rw [q1]
        unfold g_X0_spread_J227
        simp (disch := (first | omega | exact (iv_rng _ _ _).1 | exact (iv_rng _ _ _).2)) only [pi_lit, pi_nat, pi_add, pi_sub, pi_mul, pi_neg, pi_le, pi_lt, pi_eq, pi_cn, pi_ci, pi_g, am_b_some, iv_s, iv_ls, lg_s, lg_ls, if_true, if_false, Int.reduceEq, Int.reduceLT, Int.reduceLE, Int.reduceToNat, s_maskAt1, s_join]
        rw [show ((t : Int) + 3).toNat = t + 3 by omega]
        rfl
      · dsimp only
        rw [lg_ls]
        by_cases h4 : t' = t + 3
        · subst h4
          rw [if_pos ⟨rfl, rfl⟩]
          refine ⟨inb_or (hp _ h3).1 (inb_and hinAB), fun c hc => ?_⟩
          rw [pb_or, Bool.or_eq_true, (hp _ h3).2 c hc, pb_and, Bool.and_eq_true, pb_not _ (by omega), Bool.not_eq_true', hAB c hc, fr_l hf (by decide)]
          constructor
          · rintro ((h5 | ⟨_, h5, l2, d, h6, h7⟩) | ⟨⟨d, h5⟩, h6⟩)
            · exact Or.inl h5
            · exact Or.inr ⟨rfl, h5, l2, d, by omega, h7⟩
            · exact Or.inr ⟨rfl, h6, l, d, by omega, h5⟩
          · rintro (h5 | ⟨_, h5, l2, d, h6, h7⟩)
            · exact Or.inl (Or.inl h5)
            · by_cases h8 : l2 = l
              · subst h8; exact Or.inr ⟨⟨d, h7⟩, h5⟩
              · exact Or.inl (Or.inr ⟨rfl, h5, l2, d, by omega, h7⟩)
        · rw [if_neg (by omega)]
          refine ⟨(hp _ ht').1, fun c hc => ((hp _ ht').2 c hc).trans ⟨?_, ?_⟩⟩
          · rintro (h5 | ⟨h5, _⟩)
            · exact Or.inl h5
            · exact absurd h5 h4
          · rintro (h5 | ⟨h5, _⟩)
            · exact Or.inl h5
            · exact absurd h5 h4
    · refine ⟨(pI (l + 1 : Nat), N), ?_, rfl, hf, fun t' ht' => ?_⟩
      · dsimp only
        rw [q1]
        unfold g_X0_spread_J227
        simp (disch := (first | omega | exact (iv_rng _ _ _).1 | exact (iv_rng _ _ _).2)) only [pi_lit, pi_nat, pi_add, pi_sub, pi_mul, pi_neg, pi_le, pi_lt, pi_eq, pi_cn, pi_ci, pi_g, am_b_some, iv_s, iv_ls, lg_s, lg_ls, if_true, if_false, Int.reduceEq, Int.reduceLT, Int.reduceLE, Int.reduceToNat, s_maskAt, s_join0]
        rfl
      · refine ⟨(hp _ ht').1, fun c hc => ((hp _ ht').2 c hc).trans ⟨?_, ?_⟩⟩
        · rintro (h5 | ⟨h5, _⟩)
          · exact Or.inl h5
          · omega
        · rintro (h5 | ⟨h5, _⟩)
          · exact Or.inl h5
          · omega
  · rintro m ⟨a8, N⟩ ⟨e1, hf, hp⟩
    dsimp only at e1 hf hp
    subst e1
    have h1 := hwl.1
    have hFN := FL_fr hF hf (by decide) (by decide) (by decide) (by decide)
    refine ⟨((), N), ?_, hf, fun t' ht' => ⟨(hp t' ht').1, fun c hc => ((hp t' ht').2 c hc).trans ⟨?_, ?_⟩⟩⟩
    · dsimp only
      rw [g_X0_spread_L118]
      simp (disch := (first | omega | exact (iv_rng _ _ _).1 | exact (iv_rng _ _ _).2)) only [pi_lit, pi_nat, pi_add, pi_sub, pi_mul, pi_neg, pi_le, pi_lt, pi_eq, pi_cn, pi_ci, pi_g, am_b_some, iv_s, iv_ls, lg_s, lg_ls, if_true, if_false, Int.reduceEq, Int.reduceLT, Int.reduceLE, Int.reduceToNat, hFN.1]
      rw [if_pos (by omega)]
    · rintro (h5 | ⟨h5, h6, l2, d, h7, h8⟩)
      · exact Or.inl h5
      · exact Or.inr ⟨h5, h6, l2, d, by omega, h8⟩
    · rintro (h5 | ⟨h5, h6, l2, d, h7, h8⟩)
      · exact Or.inl h5
      · exact Or.inr ⟨h5, h6, l2, d, by omega, h8⟩
end PJ
