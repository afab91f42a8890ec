/-! what can be reached, by the model -/
section PS
theorem b01_eqv {p : Prop} : (b01 p = 0) = ¬ p := by
  apply propext
  by_cases h : p
  · rw [b01_t h]; exact ⟨fun e => absurd e (by decide), fun e => absurd h e⟩
  · rw [b01_f h]; exact ⟨fun _ => h, fun _ => rfl⟩
/-- the table of what is reached after n times: (time, cell) -/
def RT (σ : Nat → Int) (r wo : Int) (f : Nat) (c : Int) : Nat → Nat → Int → Prop
  | 0 => fun t x => t = f ∧ x = c
  | n + 1 => fun t x => RT σ r wo f c n t x ∨ ∃ y a : Int, (0 ≤ y ∧ y < 40) ∧ RT σ r wo f c n (f + n) y ∧ (0 ≤ a ∧ a < 7) ∧ leg σ r wo y a (f + n) ∧ (t : Int) = (f + n : Nat) + tk a ∧ x = mvs σ y a
def tb (P : Nat → Int → Prop) (N : am_M) : Prop := ∀ t x : Nat, t ≤ 30 → x < 40 → iv N 182 (40 * t + x) = b01 (P t x)
theorem MS_fr {σ : Nat → Int} {wo : Int} {M N : am_M} (h : MS σ wo M) {X : List Nat} (hf : fr X M N) (h1 : 175 ∉ X) (h2 : 174 ∉ X) (h3 : 180 ∉ X) (h4 : 181 ∉ X) : MS σ wo N := by
  refine ⟨(sg_fr hf h1).trans h.1, (fr_i hf h2 11).trans h.2.1, h.2.2.1, fun r t hr ht => ?_⟩
  rw [fr_i hf h3, fr_i hf h4]
  exact h.2.2.2 r t hr ht
theorem tb_iff {P Q : Nat → Int → Prop} {N : am_M} (h : tb P N) (e : ∀ t x : Nat, t ≤ 30 → x < 40 → (P t x ↔ Q t x)) : tb Q N := fun t x ht hx => by
  rw [h t x ht hx, b01_iff (e t x ht hx)]
theorem s_spreads {σ : Nat → Int} {r wo y : Int} {t : Nat} {M : am_M} (h : MS σ wo M) (hwl : wl σ) (hr : 0 ≤ r ∧ r < 5) (hy : 0 ≤ y ∧ y < 40) (ht : t < 30) (P : Nat → Int → Prop) (hP : tb P M) : ∃ N, g_X10_spreads (pI r) (pI y) (pI t) M = some ((), N) ∧ fr [182] M N ∧ tb (fun t' x' => P t' x' ∨ ∃ a : Int, (0 ≤ a ∧ a < 7) ∧ leg σ r wo y a t ∧ (t' : Int) = t + tk a ∧ x' = mvs σ y a) N := by
  have key := lo_for (fun m (s : Int32 × am_M) => g_X10_spreads_L3 (pI r) (pI y) (pI t) m s.1 s.2) (fun k s => s.1 = pI (k : Nat) ∧ fr [182] M s.2 ∧ tb (fun t' x' => P t' x' ∨ ∃ a : Int, (0 ≤ a ∧ a < k) ∧ leg σ r wo y a t ∧ (t' : Int) = t + tk a ∧ x' = mvs σ y a) s.2) (fun x => fr [182] M x.2 ∧ tb (fun t' x' => P t' x' ∨ ∃ a : Int, (0 ≤ a ∧ a < 7) ∧ leg σ r wo y a t ∧ (t' : Int) = t + tk a ∧ x' = mvs σ y a) x.2) 0 7 (pI 0, M) ⟨rfl, fr_refl _ _, tb_iff hP (fun t' x' _ _ => ⟨Or.inl, fun q => q.elim id (fun ⟨a, ha, _⟩ => by omega)⟩)⟩ (by omega) (by unfold am_fu; omega) ?_ ?_
  · obtain ⟨⟨u9, N⟩, h3, h4⟩ := key
    refine ⟨N, ?_, h4⟩
    unfold g_X10_spreads
    dsimp only at h3
    simp only [pi_lit]
    erw [h3]
    rw [am_b_some]
  · rintro m k ⟨a, N⟩ hk ⟨e1, hf, hq⟩
    dsimp only at e1 hf hq
    subst e1
    left
    have hm := MS_fr h hf (by decide) (by decide) (by decide) (by decide)
    have e := s_isLegal (a := (k : Int)) hm hwl hr hy (by omega) ht
    have hv := mvs_rng hwl hy (a := (k : Int)) (by omega)
    have hk3 := tk_pos (k : Int)
    by_cases h1 : leg σ r wo y k t
    · rw [b01_t h1] at e
      have h2 : mvs σ y k ≠ -1 := h1.1
      have h3 := h1.2.1
      refine ⟨(pI (k + 1 : Nat), am_s N 182 (40 * (t + tk k) + mvs σ y k).toNat (pI 1)), ?_, rfl, fr_trans hf (fr_s (by simp)), fun t' x' ht' hx' => ?_⟩
      · dsimp only
        rw [g_X10_spreads_L3]
        simp (disch := (first | omega | exact (iv_rng _ _ _).1 | exact (iv_rng _ _ _).2)) only [pi_lit, pi_nat, pi_add, pi_sub, pi_mul, pi_neg, pi_le, pi_lt, pi_eq, pi_cn, pi_ci, pi_g, am_b_some, iv_s, iv_ls, lg_s, lg_ls, if_true, if_false, Int.reduceEq, Int.reduceLT, Int.reduceLE, Int.reduceToNat, e, s_takes, s_mmoved, hm.1]
        rw [if_neg (by omega)]
        rfl
      · dsimp only
        rw [iv_s (by omega) (by omega)]
        by_cases h4 : (t' : Int) = t + tk k ∧ (x' : Int) = mvs σ y k
        · rw [if_pos (by omega), b01_t (p := P t' x' ∨ ∃ a : Int, (0 ≤ a ∧ a < (k + 1 : Nat)) ∧ leg σ r wo y a t ∧ (t' : Int) = t + tk a ∧ (x' : Int) = mvs σ y a) (Or.inr ⟨k, by omega, h1, h4⟩)]
        · rw [if_neg (by omega), hq t' x' ht' hx']
          apply b01_iff
          constructor
          · rintro (q | ⟨a, ha, q⟩)
            · exact Or.inl q
            · exact Or.inr ⟨a, by omega, q⟩
          · rintro (q | ⟨a, ha, q⟩)
            · exact Or.inl q
            · by_cases h5 : a = k
              · subst h5; exact absurd q.2 h4
              · exact Or.inr ⟨a, by omega, q⟩
    · rw [b01_f h1] at e
      refine ⟨(pI (k + 1 : Nat), N), ?_, rfl, hf, tb_iff hq (fun t' x' _ _ => ?_)⟩
      · dsimp only
        rw [g_X10_spreads_L3]
        simp (disch := (first | omega | exact (iv_rng _ _ _).1 | exact (iv_rng _ _ _).2)) only [pi_lit, pi_nat, pi_add, pi_sub, pi_mul, pi_neg, pi_le, pi_lt, pi_eq, pi_cn, pi_ci, pi_g, am_b_some, iv_s, iv_ls, lg_s, lg_ls, if_true, if_false, Int.reduceEq, Int.reduceLT, Int.reduceLE, Int.reduceToNat, e]
        rw [if_neg (by omega)]
        rfl
      · constructor
        · rintro (q | ⟨a, ha, q⟩)
          · exact Or.inl q
          · exact Or.inr ⟨a, by omega, q⟩
        · rintro (q | ⟨a, ha, q⟩)
          · exact Or.inl q
          · by_cases h5 : a = k
            · subst h5; exact absurd q.1 h1
            · exact Or.inr ⟨a, by omega, q⟩
  · rintro m ⟨a, N⟩ ⟨e1, hf, hq⟩
    dsimp only at e1 hf hq
    subst e1
    refine ⟨((), N), ?_, hf, hq⟩
    dsimp only
    rw [g_X10_spreads_L3]
    simp (disch := (first | omega | exact (iv_rng _ _ _).1 | exact (iv_rng _ _ _).2)) only [pi_lit, pi_nat, pi_add, pi_sub, pi_mul, pi_neg, pi_le, pi_lt, pi_eq, pi_cn, pi_ci, pi_g, am_b_some, iv_s, iv_ls, lg_s, lg_ls, if_true, if_false, Int.reduceEq, Int.reduceLT, Int.reduceLE, Int.reduceToNat]
    rw [if_pos (by omega)]
theorem s_reaches {σ : Nat → Int} {r wo c : Int} {f : Nat} {M : am_M} (h : MS σ wo M) (hwl : wl σ) (hr : 0 ≤ r ∧ r < 5) (hc : 0 ≤ c ∧ c < 40) (hf : f ≤ 30) : ∃ N, g_X10_reaches (pI r) (pI c) (pI f) M = some ((), N) ∧ fr [182] M N ∧ tb (RT σ r wo f c (30 - f)) N := by
  -- all false
  have k1 := lo_for (fun m (s : Int32 × am_M) => g_X10_reaches_L3 (pI r) (pI c) (pI f) m s.1 s.2) (fun k s => s.1 = pI (k : Nat) ∧ fr [182] M s.2 ∧ ∀ j, j < k → iv s.2 182 j = 0) (fun x => fr [182] M x.2 ∧ ∀ j, j < 1240 → iv x.2 182 j = 0) 0 1240 (pI 0, M) ⟨rfl, fr_refl _ _, fun j hj => by omega⟩ (by omega) (by unfold am_fu; omega) ?_ ?_
  · obtain ⟨⟨u9, N1⟩, q1, q2, q3⟩ := k1
    dsimp only at q1 q2 q3
    have hN2 : fr [182] M (am_s N1 182 (40 * f + c).toNat (pI 1)) := fr_trans q2 (fr_s (by simp))
    have ht2 : tb (RT σ r wo f c 0) (am_s N1 182 (40 * f + c).toNat (pI 1)) := fun t x ht hx => by
      rw [iv_s (by omega) (by omega), q3 _ (by omega)]
      unfold RT
      by_cases h1 : t = f ∧ (x : Int) = c
      · rw [if_pos (by omega), b01_t h1]
      · rw [if_neg (by omega), b01_f h1]
    have k2 := lo_for (fun m (s : Int32 × am_M) => g_X10_reaches_L40 (pI r) m s.1 s.2) (fun k s => f ≤ k ∧ s.1 = pI (k : Nat) ∧ fr [182] M s.2 ∧ tb (RT σ r wo f c (k - f)) s.2) (fun x => fr [182] M x.2 ∧ tb (RT σ r wo f c (30 - f)) x.2) f 30 (pI f, am_s N1 182 (40 * f + c).toNat (pI 1)) ⟨Nat.le_refl _, rfl, hN2, by rw [Nat.sub_self]; exact ht2⟩ hf (by unfold am_fu; omega) ?_ ?_
    · obtain ⟨⟨u8, N⟩, p1, p2, p3⟩ := k2
      refine ⟨N, ?_, p2, p3⟩
      unfold g_X10_reaches
      dsimp only at p1
      simp (disch := (first | omega | exact (iv_rng _ _ _).1 | exact (iv_rng _ _ _).2)) only [pi_lit, pi_nat, pi_add, pi_sub, pi_mul, pi_neg, pi_le, pi_lt, pi_eq, pi_cn, pi_ci, pi_g, am_b_some, iv_s, iv_ls, lg_s, lg_ls, if_true, if_false, Int.reduceEq, Int.reduceLT, Int.reduceLE, Int.reduceToNat, q1, p1]
    · rintro m k ⟨a, N⟩ hk ⟨hfk, e1, hfr, htb⟩
      dsimp only at e1 hfr htb
      subst e1
      left
      -- the cells of a time
      have k3 := lo_for (fun m (s : Int32 × am_M) => g_X10_reaches_L50 (pI r) (pI k) m s.1 s.2) (fun j s => s.1 = pI (j : Nat) ∧ fr [182] M s.2 ∧ tb (fun t x => RT σ r wo f c (k - f) t x ∨ ∃ y a : Int, (0 ≤ y ∧ y < j) ∧ RT σ r wo f c (k - f) k y ∧ (0 ≤ a ∧ a < 7) ∧ leg σ r wo y a k ∧ (t : Int) = k + tk a ∧ x = mvs σ y a) s.2) (fun x => fr [182] M x.2 ∧ tb (RT σ r wo f c (k + 1 - f)) x.2) 0 40 (pI 0, N) ⟨rfl, hfr, tb_iff htb (fun t x _ _ => ⟨Or.inl, fun q => q.elim id (fun ⟨y, a, hy, _⟩ => by omega)⟩)⟩ (by omega) (by unfold am_fu; omega) ?_ ?_
      · obtain ⟨⟨u7, O⟩, p1, p2, p3⟩ := k3
        refine ⟨(pI (k + 1 : Nat), O), ?_, by omega, rfl, p2, p3⟩
        dsimp only at p1 ⊢
        rw [g_X10_reaches_L40]
        simp (disch := (first | omega | exact (iv_rng _ _ _).1 | exact (iv_rng _ _ _).2)) only [pi_lit, pi_nat, pi_add, pi_sub, pi_mul, pi_neg, pi_le, pi_lt, pi_eq, pi_cn, pi_ci, pi_g, am_b_some, iv_s, iv_ls, lg_s, lg_ls, if_true, if_false, Int.reduceEq, Int.reduceLT, Int.reduceLE, Int.reduceToNat, p1]
        rw [if_neg (by omega)]
        rfl
      · rintro m j ⟨a, O⟩ hj ⟨e1, hfo, hto⟩
        dsimp only at e1 hfo hto
        subst e1
        left
        have hm := MS_fr h hfo (by decide) (by decide) (by decide) (by decide)
        have hv : iv O 182 (40 * k + j) = b01 (RT σ r wo f c (k - f) k j) := by
          rw [hto k j (by omega) hj]
          apply b01_iff
          constructor
          · rintro (q | ⟨y, a, hy, _, _, _, ht, _⟩)
            · exact q
            · have := tk_pos a; omega
          · exact Or.inl
        by_cases h1 : RT σ r wo f c (k - f) k j
        · rw [b01_t h1] at hv
          obtain ⟨O2, g1, g2, g3⟩ := s_spreads (y := (j : Int)) (t := k) hm hwl hr (by omega) hk _ hto
          refine ⟨(pI (j + 1 : Nat), O2), ?_, rfl, fr_trans hfo g2, tb_iff g3 (fun t x _ _ => ?_)⟩
          · dsimp only
            rw [g_X10_reaches_L50]
            simp (disch := (first | omega | exact (iv_rng _ _ _).1 | exact (iv_rng _ _ _).2)) only [pi_lit, pi_nat, pi_add, pi_sub, pi_mul, pi_neg, pi_le, pi_lt, pi_eq, pi_cn, pi_ci, pi_g, am_b_some, iv_s, iv_ls, lg_s, lg_ls, if_true, if_false, Int.reduceEq, Int.reduceLT, Int.reduceLE, Int.reduceToNat, g1]
            rw [if_neg (by omega), show (40 * (k : Int) + (j : Int)).toNat = 40 * k + j by omega, hv, if_neg (by omega)]
            rfl
          · constructor
            · rintro ((q | ⟨y, a, hy, q⟩) | ⟨a, ha, q⟩)
              · exact Or.inl q
              · exact Or.inr ⟨y, a, by omega, q⟩
              · exact Or.inr ⟨j, a, by omega, h1, ha, q⟩
            · rintro (q | ⟨y, a, hy, q⟩)
              · exact Or.inl (Or.inl q)
              · by_cases h5 : y = j
                · subst h5; exact Or.inr ⟨a, q.2⟩
                · exact Or.inl (Or.inr ⟨y, a, by omega, q⟩)
        · rw [b01_f h1] at hv
          refine ⟨(pI (j + 1 : Nat), O), ?_, rfl, hfo, tb_iff hto (fun t x _ _ => ?_)⟩
          · dsimp only
            rw [g_X10_reaches_L50]
            simp (disch := (first | omega | exact (iv_rng _ _ _).1 | exact (iv_rng _ _ _).2)) only [pi_lit, pi_nat, pi_add, pi_sub, pi_mul, pi_neg, pi_le, pi_lt, pi_eq, pi_cn, pi_ci, pi_g, am_b_some, iv_s, iv_ls, lg_s, lg_ls, if_true, if_false, Int.reduceEq, Int.reduceLT, Int.reduceLE, Int.reduceToNat]
            rw [if_neg (by omega), show (40 * (k : Int) + (j : Int)).toNat = 40 * k + j by omega, hv, if_pos rfl]
            rfl
          · constructor
            · rintro (q | ⟨y, a, hy, q⟩)
              · exact Or.inl q
              · exact Or.inr ⟨y, a, by omega, q⟩
            · rintro (q | ⟨y, a, hy, q⟩)
              · exact Or.inl q
              · by_cases h5 : y = j
                · subst h5; exact absurd q.1 h1
                · exact Or.inr ⟨y, a, by omega, q⟩
      · rintro m ⟨a, O⟩ ⟨e1, hfo, hto⟩
        dsimp only at e1 hfo hto
        subst e1
        refine ⟨((), O), ?_, hfo, tb_iff hto (fun t x _ _ => ?_)⟩
        · dsimp only
          rw [g_X10_reaches_L50]
          simp (disch := (first | omega | exact (iv_rng _ _ _).1 | exact (iv_rng _ _ _).2)) only [pi_lit, pi_nat, pi_add, pi_sub, pi_mul, pi_neg, pi_le, pi_lt, pi_eq, pi_cn, pi_ci, pi_g, am_b_some, iv_s, iv_ls, lg_s, lg_ls, if_true, if_false, Int.reduceEq, Int.reduceLT, Int.reduceLE, Int.reduceToNat]
          rw [if_pos (by omega)]
        · rw [show k + 1 - f = (k - f) + 1 by omega, RT, show f + (k - f) = k by omega]
          rfl
    · rintro m ⟨a, N⟩ ⟨hfk, e1, hfr, htb⟩
      dsimp only at e1 hfr htb
      subst e1
      refine ⟨((), N), ?_, hfr, htb⟩
      dsimp only
      rw [g_X10_reaches_L40]
      simp (disch := (first | omega | exact (iv_rng _ _ _).1 | exact (iv_rng _ _ _).2)) only [pi_lit, pi_nat, pi_add, pi_sub, pi_mul, pi_neg, pi_le, pi_lt, pi_eq, pi_cn, pi_ci, pi_g, am_b_some, iv_s, iv_ls, lg_s, lg_ls, if_true, if_false, Int.reduceEq, Int.reduceLT, Int.reduceLE, Int.reduceToNat]
      rw [if_pos (by omega)]
  · rintro m k ⟨a, N⟩ hk ⟨e1, hfr, hz⟩
    dsimp only at e1 hfr hz
    subst e1
    left
    refine ⟨(pI (k + 1 : Nat), am_s N 182 k (pI 0)), ?_, rfl, fr_trans hfr (fr_s (by simp)), fun j hj => ?_⟩
    · dsimp only
      rw [g_X10_reaches_L3]
      simp (disch := (first | omega | exact (iv_rng _ _ _).1 | exact (iv_rng _ _ _).2)) only [pi_lit, pi_nat, pi_add, pi_sub, pi_mul, pi_neg, pi_le, pi_lt, pi_eq, pi_cn, pi_ci, pi_g, am_b_some, iv_s, iv_ls, lg_s, lg_ls, if_true, if_false, Int.reduceEq, Int.reduceLT, Int.reduceLE, Int.reduceToNat]
      rw [if_neg (by omega)]
      rfl
    · dsimp only
      rw [iv_s (by omega) (by omega)]
      by_cases h1 : j = k
      · rw [if_pos ⟨rfl, h1⟩]
      · rw [if_neg (by omega)]
        exact hz j (by omega)
  · rintro m ⟨a, N⟩ ⟨e1, hfr, hz⟩
    dsimp only at e1 hfr hz
    subst e1
    refine ⟨((), N), ?_, hfr, hz⟩
    dsimp only
    rw [g_X10_reaches_L3]
    simp (disch := (first | omega | exact (iv_rng _ _ _).1 | exact (iv_rng _ _ _).2)) only [pi_lit, pi_nat, pi_add, pi_sub, pi_mul, pi_neg, pi_le, pi_lt, pi_eq, pi_cn, pi_ci, pi_g, am_b_some, iv_s, iv_ls, lg_s, lg_ls, if_true, if_false, Int.reduceEq, Int.reduceLT, Int.reduceLE, Int.reduceToNat]
    rw [if_pos (by omega)]
end PS
