/-! the class walks along best actions -/
section QC
theorem ws_len {σ : Nat → Int} (hwl : wl σ) {r wo : Int} {g c : Int} (hc : 0 ≤ c ∧ c < 40) {e f : Nat} (hfe : f ≤ e) (he : e ≤ 30) (hst : CO σ r wo (RT σ r wo f c (30 - f)) g e (e - f) f c < 1000000) : ∃ n, (ws σ r wo e (CO σ r wo (RT σ r wo f c (30 - f)) g e (e - f)) f c n).1 = e ∧ (∀ j, j < n → (ws σ r wo e (CO σ r wo (RT σ r wo f c (30 - f)) g e (e - f)) f c j).1 < e) ∧ n + f ≤ e := by
  have hinv := fun i => (ws_inv hwl hc hfe he hst i).2.1
  obtain ⟨C, hC⟩ : ∃ C, C = CO σ r wo (RT σ r wo f c (30 - f)) g e (e - f) := ⟨_, rfl⟩
  rw [← hC] at hinv ⊢
  have key : ∀ m, (∃ n, (ws σ r wo e C f c n).1 = e ∧ (∀ j, j < n → (ws σ r wo e C f c j).1 < e) ∧ n + f ≤ e) ∨ ((∀ j, j ≤ m → (ws σ r wo e C f c j).1 < e) ∧ f + m ≤ (ws σ r wo e C f c m).1) := by
    intro m
    induction m with
    | zero =>
      by_cases h : f = e
      · exact Or.inl ⟨0, h, fun j hj => by omega, by omega⟩
      · exact Or.inr ⟨fun j hj => by
          have : j = 0 := by omega
          subst this
          show f < e
          omega, Nat.le_refl _⟩
    | succ m ih =>
      rcases ih with h | ⟨h1, h2⟩
      · exact Or.inl h
      · have h3 := h1 m (Nat.le_refl _)
        have h4 : (ws σ r wo e C f c m).1 + 1 ≤ (ws σ r wo e C f c (m + 1)).1 := by
          rw [ws, if_pos h3]
          dsimp only
          have := tk_pos (ba σ r wo e C (ws σ r wo e C f c m).1 (ws σ r wo e C f c m).2)
          omega
        have h5 := hinv (m + 1)
        by_cases h6 : (ws σ r wo e C f c (m + 1)).1 = e
        · exact Or.inl ⟨m + 1, h6, fun j hj => h1 j (by omega), by omega⟩
        · refine Or.inr ⟨fun j hj => ?_, by omega⟩
          by_cases h7 : j = m + 1
          · subst h7; omega
          · exact h1 j (by omega)
  rcases key 31 with h | ⟨h1, h2⟩
  · exact h
  · have := h1 31 (Nat.le_refl _)
    omega
theorem s_walk48 {σ : Nat → Int} {r wo : Int} {e t x a : Nat} {st : Int} {M : am_M} (h : FM σ r wo M) (hb : BW M) (hwl : wl σ) (hF : FL σ M) (hx : x < 40) (ha : a < 7) (he : e ≤ 30) (ht : t < e) (C : Nat → Int → Int) (hC0 : ∀ t x, 0 ≤ C t x ∧ C t x ≤ 1000000) (hC : ∀ t' x' : Nat, t < t' → t' ≤ e → x' < 40 → iv M 165 (40 * t' + x') = C t' x') (hn : ∀ t' x' : Nat, t < t' → t' ≤ e → x' < 40 → ¬ fre σ r wo x' t' → C t' x' = 1000000) (hm : C t x = mn (thr σ r wo e C t x) 7) (hl : C t x < 1000000) (h1 : bst σ r wo e C t x a) (h2 : ∀ j : Nat, j < a → ¬ bst σ r wo e C t x j) : g_X0_walk_L48 158 (pI e) (pI st) (pI t) (pI x) (pI (C t x)) am_fu (pI 0) M = some (pI a, M) := by
  have b0 := hC0 t x
  obtain ⟨s, h3, h4⟩ := lo_for (fun m (s : Int32 × am_M) => g_X0_walk_L48 158 (pI e) (pI st) (pI t) (pI x) (pI (C t x)) m s.1 s.2) (fun k s => s = (pI (k : Nat), M)) (fun s => s = (pI (a : Nat), M)) 0 a (pI 0, M) rfl (by omega) (by unfold am_fu; omega) (by
    rintro m k s hk rfl
    left
    refine ⟨_, ?_, rfl⟩
    obtain ⟨v, g1, v1, v2, v3⟩ := s_costThrough h hb hwl hF hx (a := k) (by omega) he ht C hC0 hC hn
    have hlow := mn_low (g := thr σ r wo e C t x) (k := 7) (a := k) (by omega)
    rw [← hm] at hlow
    have hv : ¬ v ≤ C t x := fun q => by
      have e1 : v = thr σ r wo e C t x k := v3.elim id (fun q2 => by omega)
      have e2 : thr σ r wo e C t x k = C t x := by omega
      refine h2 k hk ?_
      unfold thr at e2
      by_cases h6 : leg σ r wo x k t ∧ (t : Int) + tk k ≤ e
      · rw [cif_t h6] at e2
        exact ⟨h6.2, h6.1, e2⟩
      · rw [cif_f h6] at e2
        omega
    dsimp only
    rw [g_X0_walk_L48]
    simp (disch := (first | omega | exact (iv_rng _ _ _).1 | exact (iv_rng _ _ _).2)) only [pi_lit, pi_nat, pi_add, pi_sub, pi_mul, pi_neg, pi_le, pi_lt, pi_eq, pi_cn, pi_ci, pi_g, am_b_some, iv_s, iv_ls, lg_s, lg_ls, if_true, if_false, Int.reduceEq, Int.reduceLT, Int.reduceLE, Int.reduceToNat, g1]
    rw [if_neg (by omega), if_neg hv]
    rfl) (by
    rintro m s rfl
    refine ⟨_, ?_, rfl⟩
    dsimp only
    rw [g_X0_walk_L48]
    simp (disch := (first | omega | exact (iv_rng _ _ _).1 | exact (iv_rng _ _ _).2)) only [pi_lit, pi_nat, pi_add, pi_sub, pi_mul, pi_neg, pi_le, pi_lt, pi_eq, pi_cn, pi_ci, pi_g, am_b_some, iv_s, iv_ls, lg_s, lg_ls, if_true, if_false, Int.reduceEq, Int.reduceLT, Int.reduceLE, Int.reduceToNat]
    by_cases a6 : 6 ≤ (a : Int)
    · rw [if_pos a6]
    · rw [if_neg a6]
      obtain ⟨v, g1, v1, v2, v3⟩ := s_costThrough h hb hwl hF hx (a := a) (by omega) he ht C hC0 hC hn
      have e1 : thr σ r wo e C t x a = C t x := by
        unfold thr
        rw [cif_t ⟨h1.2.1, h1.1⟩]
        exact h1.2.2
      have e2 : v ≤ C t x := v3.elim (fun q => by omega) (fun q => by omega)
      simp (disch := (first | omega | exact (iv_rng _ _ _).1 | exact (iv_rng _ _ _).2)) only [pi_lit, pi_nat, pi_add, pi_sub, pi_mul, pi_neg, pi_le, pi_lt, pi_eq, pi_cn, pi_ci, pi_g, am_b_some, iv_s, iv_ls, lg_s, lg_ls, if_true, if_false, Int.reduceEq, Int.reduceLT, Int.reduceLE, Int.reduceToNat, g1]
      rw [if_pos e2])
  dsimp only at h3
  rw [h3, h4]
noncomputable def wb (σ : Nat → Int) (r wo : Int) (e : Nat) (C : Nat → Int → Int) (f : Nat) (c : Int) (α : Nat → Int) (m0 : Nat) : Nat → Int := fun k => if k < m0 then α k else wa σ r wo e C f c (k - m0)
theorem wb_steps {σ : Nat → Int} {r wo : Int} {e : Nat} {C : Nat → Int → Int} {f : Nat} {c c0 : Int} {α : Nat → Int} {m0 n : Nat} (hlt : lt α m0 = f) (hlc : lc σ c0 α m0 = c) (hw : ∀ j, j < n → (ws σ r wo e C f c j).1 < e) : ∀ i, i ≤ n → lt (wb σ r wo e C f c α m0) (m0 + i) = (ws σ r wo e C f c i).1 ∧ lc σ c0 (wb σ r wo e C f c α m0) (m0 + i) = (ws σ r wo e C f c i).2 := by
  intro i
  induction i with
  | zero =>
    intro _
    have hc : ∀ k, k < m0 → wb σ r wo e C f c α m0 k = α k := fun k hk => if_pos hk
    rw [Nat.add_zero, lt_congr hc, lc_congr hc, hlt, hlc]
    exact ⟨rfl, rfl⟩
  | succ i ih =>
    intro hi
    obtain ⟨h1, h2⟩ := ih (by omega)
    have e1 : wb σ r wo e C f c α m0 (m0 + i) = wa σ r wo e C f c i := by
      unfold wb
      rw [if_neg (by omega), show m0 + i - m0 = i by omega]
    have h3 := hw i (by omega)
    have htp := tk_pos (wa σ r wo e C f c i)
    rw [← Nat.add_assoc, lt, lc, h1, h2, e1, ws, if_pos h3]
    dsimp only
    unfold wa at htp ⊢
    exact ⟨by omega, rfl⟩
theorem wb_cost {σ : Nat → Int} (hwl : wl σ) {r wo : Int} {g c c0 : Int} (hc : 0 ≤ c ∧ c < 40) {e f : Nat} (hfe : f ≤ e) (he : e ≤ 30) {C : Nat → Int → Int} (hC : C = CO σ r wo (RT σ r wo f c (30 - f)) g e (e - f)) (hst : C f c < 1000000) {α : Nat → Int} {m0 n : Nat} (hw : ∀ j, j < n → (ws σ r wo e C f c j).1 < e) : ∀ i, i ≤ n → lco (wb σ r wo e C f c α m0) (m0 + i) = lco α m0 + C f c - C (ws σ r wo e C f c i).1 (ws σ r wo e C f c i).2 := by
  intro i
  induction i with
  | zero =>
    intro _
    have hc : ∀ k, k < m0 → wb σ r wo e C f c α m0 k = α k := fun k hk => if_pos hk
    rw [Nat.add_zero, lco_congr hc]
    show _ = lco α m0 + C f c - C f c
    omega
  | succ i ih =>
    intro hi
    have h1 := ih (by omega)
    have e1 : wb σ r wo e C f c α m0 (m0 + i) = wa σ r wo e C f c i := by
      unfold wb
      rw [if_neg (by omega), show m0 + i - m0 = i by omega]
    have h3 := hw i (by omega)
    have h4 := wa_best hwl hc hfe he (by rw [← hC]; exact hst) i (by rw [← hC]; exact h3)
    rw [← hC] at h4
    have h5 := h4.2.1.2.2
    rw [← Nat.add_assoc, lco, h1, e1, ws, if_pos h3]
    dsimp only
    unfold wa at h5 ⊢
    omega
theorem s_walk {σ : Nat → Int} {r wo g c0 : Int} {c f e n m0 : Nat} {α : Nat → Int} {M : am_M} (h : FM σ r wo M) (hb : BW M) (hwl : wl σ) (hF : FL σ M) (hc : c < 40) (hfe : f ≤ e) (he : e ≤ 30) (hRg : RT σ r wo f c (30 - f) e g) (C : Nat → Int → Int) (eC : C = CO σ r wo (RT σ r wo f c (30 - f)) g e (e - f)) (hst : C f c < 1000000) (hcost : ∀ t x : Nat, f ≤ t → t ≤ e → x < 40 → iv M 165 (40 * t + x) = C t x) (hn : (ws σ r wo e C f c n).1 = e) (hw : ∀ j, j < n → (ws σ r wo e C f c j).1 < e) (hnf : n + f ≤ e) (hRW : RW σ 158 c0 α m0 M) (hlt : lt α m0 = f) (hlc : lc σ c0 α m0 = c) : ∃ N, g_X0_walk 158 (pI e) M = some ((), N) ∧ fr [158, 159, 160] M N ∧ (∀ k, k ≠ 3 → k ≠ 4 → iv N 158 k = iv M 158 k) ∧ RW σ 158 c0 (wb σ r wo e C f c α m0) (m0 + n) N := by
  have hC0 : ∀ t x, 0 ≤ C t x ∧ C t x ≤ 1000000 := fun t x => by rw [eC]; exact CO_rng _ _ _ _ _ _ _ _ _
  have hst2 := hst
  rw [eC] at hst2
  have hsteps := wb_steps (α := α) (m0 := m0) (n := n) hlt hlc hw
  have hcg : ∀ k, k < m0 → α k = wb σ r wo e C f c α m0 k := fun k hk => (if_pos hk).symm
  obtain ⟨⟨u, N⟩, g1, f1, f2, p1⟩ := lo_for (fun m (s : Int32 × am_M) => g_X0_walk_L2 158 (pI e) m s.1 s.2) (fun k s => s.1 = pI (k : Nat) ∧ fr [158, 159, 160] M s.2 ∧ (∀ k, k ≠ 3 → k ≠ 4 → iv s.2 158 k = iv M 158 k) ∧ RW σ 158 c0 (wb σ r wo e C f c α m0) (m0 + k) s.2) (fun s => fr [158, 159, 160] M s.2 ∧ (∀ k, k ≠ 3 → k ≠ 4 → iv s.2 158 k = iv M 158 k) ∧ RW σ 158 c0 (wb σ r wo e C f c α m0) (m0 + n) s.2) 0 n (pI 0, M) ⟨rfl, fr_refl _ _, fun _ _ _ => rfl, RW_congr hcg hRW⟩ (by omega) (by unfold am_fu; omega) (by
    rintro m k ⟨a, N⟩ hk ⟨e1, hf, hf2, q⟩
    dsimp only at e1 hf hf2 q
    subst e1
    left
    have hN := FM_fr h hf (by decide) (by decide)
    have hBN := BW_fr hb hf (by decide)
    have hFN := FL_fr hF hf (by decide) (by decide) (by decide) (by decide)
    obtain ⟨s1, s2⟩ := hsteps k (by omega)
    obtain ⟨i1, i2, i3⟩ := ws_inv hwl (c := (c : Int)) (by omega) hfe he hst2 k
    have hbest := wa_best hwl (c := (c : Int)) (by omega) hfe he hst2 k (by rw [← eC]; exact hw k hk)
    rw [← eC] at i1 i2 i3 hbest
    have hlast := ws_inv hwl (c := (c : Int)) (by omega) hfe he hst2 (k + 1)
    rw [← eC] at hlast
    obtain ⟨s3, s4⟩ := hsteps (k + 1) (by omega)
    have hlt1 := hw k hk
    obtain ⟨t, et⟩ : ∃ t, t = (ws σ r wo e C f c k).1 := ⟨_, rfl⟩
    have hrg := RT_rng hwl (c := (c : Int)) (by omega) i1
    obtain ⟨x, ex⟩ : ∃ x : Nat, x = (ws σ r wo e C f c k).2.toNat := ⟨_, rfl⟩
    have ex2 : (ws σ r wo e C f c k).2 = x := by omega
    rw [← et] at i1 i2 i3 hbest s1 hrg hlt1
    have e158 : (158 + 2 : Nat) = 160 := rfl
    rw [ex2] at i1 i3 hbest s2 hrg
    obtain ⟨q1, q2, q3, q4⟩ := q
    have q := (⟨q1, q2, q3, q4⟩ : RW σ 158 c0 (wb σ r wo e C f c α m0) (m0 + k) N)
    rw [s1] at q1 q4
    rw [s2] at q4
    have hrl := RT_rng hwl (c := (c : Int)) (by omega) hlast.1
    have hle := hlast.2.1
    have e9 : wb σ r wo e C f c α m0 (m0 + k) = wa σ r wo e C f c k := by
      unfold wb
      rw [if_neg (by omega), show m0 + k - m0 = k by omega]
    have s3' : lt (wb σ r wo e C f c α m0) (m0 + k + 1) ≤ 30 := by rw [Nat.add_assoc, s3]; omega
    have s4' : -1 ≤ lc σ c0 (wb σ r wo e C f c α m0) (m0 + k + 1) ∧ lc σ c0 (wb σ r wo e C f c α m0) (m0 + k + 1) < 40 := by rw [Nat.add_assoc, s4]; omega
    obtain ⟨O, g5, f5, f6, p5⟩ := s_addAction (p := 158) (n := m0 + k) (by omega) q (by rw [e9]; have := hbest.1; omega) s3' s4'
    refine ⟨(pI (k + 1 : Nat), O), ?_, rfl, fr_trans hf f5, fun i h1 h2 => by rw [f6 i h1 h2]; exact hf2 i h1 h2, by rw [← Nat.add_assoc]; exact p5⟩
    have hct : ∀ t' x' : Nat, f ≤ t' → t' ≤ e → x' < 40 → iv N 165 (40 * t' + x') = C t' x' := fun t' x' a1 a2 a3 => by rw [fr_i hf (by decide)]; exact hcost t' x' a1 a2 a3
    have hm : C t x = mn (thr σ r wo e C t x) 7 := by
      have := CO_eq (σ := σ) (r := r) (wo := wo) (g := g) (R := RT σ r wo f c (30 - f)) (e := e) hrg.1 hlt1 i1
      rw [← eC] at this
      exact this
    have g4 := s_walk48 (st := (k : Int)) hN hBN hwl hFN (t := t) (x := x) (by omega) hbest.1 he hlt1 C hC0 (fun t' x' r1 r2 r3 => hct t' x' (by omega) r2 r3) (fun t' x' r1 r2 r3 r4 => by
      by_cases r5 : t' = e
      · subst r5
        rw [eC, CO_end]
        rw [if_neg (fun r6 => r4 (by rw [r6]; exact RT_fre hRg (by omega)))]
      · rw [eC]
        exact CO_not (by omega) (by omega) (fun r6 => r4 (RT_fre r6 (by omega)))) hm i3 hbest.2.1 hbest.2.2
    have hv := hct t x hrg.1 (by omega) (by omega)
    have hc0 := hC0 t x
    have hmv : mvs σ x (wa σ r wo e C f c k) = lc σ c0 (wb σ r wo e C f c α m0) (m0 + k + 1) := by rw [lc, s2, e9]
    have hlk := hFN.2.2.2 x (wa σ r wo e C f c k) (by omega) hbest.1
    rw [hmv] at hlk
    rw [e9] at g5
    have hb7 := hbest.1
    dsimp only
    rw [g_X0_walk_L2]
    unfold g_X2_lastPlace
    simp (disch := (first | omega | exact (iv_rng _ _ _).1 | exact (iv_rng _ _ _).2)) only [pi_lit, pi_nat, pi_add, pi_sub, pi_mul, pi_neg, pi_le, pi_lt, pi_eq, pi_cn, pi_ci, pi_g, am_b_some, iv_s, iv_ls, lg_s, lg_ls, if_true, if_false, Int.reduceEq, Int.reduceLT, Int.reduceLE, Int.reduceToNat, q1, s_at1, Int.toNat_natCast]
    rw [if_neg (by omega), if_neg (by omega)]
    rw [show (158 + 2 : Nat) = 160 from rfl] at q4 ⊢
    rw [q4]
    rw [show ((t : Int) * 40 + x).toNat = 40 * t + x by omega, hv]
    rw [show (pI 0) = (0 : Int32) from rfl] at g4
    first
      | rw [g4]
      | erw [g4]
    rw [am_b_some]
    unfold g_X0_walk_J77
    simp (disch := (first | omega | exact (iv_rng _ _ _).1 | exact (iv_rng _ _ _).2)) only [pi_lit, pi_nat, pi_add, pi_sub, pi_mul, pi_neg, pi_le, pi_lt, pi_eq, pi_cn, pi_ci, pi_g, am_b_some, iv_s, iv_ls, lg_s, lg_ls, if_true, if_false, Int.reduceEq, Int.reduceLT, Int.reduceLE, Int.reduceToNat, s_at1]
    rw [show ((x : Int) * 7 + (wa σ r wo e C f c k : Nat)).toNat = 7 * x + wa σ r wo e C f c k by omega, show (2 + 2 : Nat) = 4 from rfl, hlk, g5, am_b_some]
    rfl) (by
    rintro m ⟨a, N⟩ ⟨e1, hf, hf2, q⟩
    dsimp only at e1 hf hf2 q
    subst e1
    refine ⟨((), N), ?_, hf, hf2, q⟩
    obtain ⟨s1, s2⟩ := hsteps n (Nat.le_refl _)
    have q1 := q.1
    rw [s1, hn] at q1
    dsimp only
    rw [g_X0_walk_L2]
    simp (disch := (first | omega | exact (iv_rng _ _ _).1 | exact (iv_rng _ _ _).2)) only [pi_lit, pi_nat, pi_add, pi_sub, pi_mul, pi_neg, pi_le, pi_lt, pi_eq, pi_cn, pi_ci, pi_g, am_b_some, iv_s, iv_ls, lg_s, lg_ls, if_true, if_false, Int.reduceEq, Int.reduceLT, Int.reduceLE, Int.reduceToNat, q1]
    by_cases h30 : (30 : Int) ≤ n
    · rw [if_pos h30]
    · rw [if_neg h30, if_pos (by omega)])
  dsimp only at g1 f1 f2 p1
  refine ⟨N, ?_, f1, f2, p1⟩
  unfold g_X0_walk
  rw [show (0 : Int32) = pI 0 from rfl, g1, am_b_some]
/-- the best route is appended to a route of the class -/
theorem s_extend {σ : Nat → Int} {r wo g fin c0 : Int} {c f m0 : Nat} {α : Nat → Int} {M : am_M} (h : FM σ r wo M) (hb : BW M) (hwl : wl σ) (hF : FL σ M) (hc : c < 40) (hf : f ≤ 30) (hg : 0 ≤ g ∧ g < 40) (hfin : 0 ≤ fin ∧ fin ≤ 1) (hRW : RW σ 158 c0 α m0 M) (hlt : lt α m0 = f) (hlc : lc σ c0 α m0 = c) : ∃ N, fr [158, 159, 160, 164, 165] M N ∧ (∀ k, k ≠ 3 → k ≠ 4 → iv N 158 k = iv M 158 k) ∧ ((∃ (e n : Nat) (C : Nat → Int → Int), g_X0_extend 158 (pI g) (pI fin) M = some (pI 1, N) ∧ rout σ r wo f c g fin e n C ∧ RW σ 158 c0 (wb σ r wo e C f c α m0) (m0 + n) N ∧ lt (wb σ r wo e C f c α m0) (m0 + n) = e ∧ lc σ c0 (wb σ r wo e C f c α m0) (m0 + n) = g ∧ lco (wb σ r wo e C f c α m0) (m0 + n) = lco α m0 + C f c) ∨ (g_X0_extend 158 (pI g) (pI fin) M = some (pI 0, N) ∧ RW σ 158 c0 α m0 N ∧ ∀ e', f ≤ e' → e' ≤ 30 → ¬ okE σ r wo f c g fin e')) := by
  obtain ⟨w1, w2, w3, w4⟩ := hRW
  have hRW : RW σ 158 c0 α m0 M := ⟨w1, w2, w3, w4⟩
  rw [hlt] at w1 w4
  rw [hlc] at w4
  obtain ⟨x, N, g1, f1, t1, hx⟩ := s_endOf h hwl hF hc hf hg hfin w1 w4
  have hRN := RW_fr hRW f1 (by decide) (by decide) (by decide)
  have hN := FM_fr h f1 (by decide) (by decide)
  have hBN := BW_fr hb f1 (by decide)
  have hFN := FL_fr hF f1 (by decide) (by decide) (by decide) (by decide)
  rcases hx with ⟨e, rfl, e1, e2, e3, e4⟩ | ⟨rfl, hno⟩
  · obtain ⟨O, g2, f2, p2⟩ := s_countCosts hN hBN hwl hFN hg e1 e2 t1 e3.1
    obtain ⟨C, eC⟩ : ∃ C, C = CO σ r wo (RT σ r wo f c (30 - f)) g e (e - f) := ⟨_, rfl⟩
    have hfin2 : CO σ r wo (RT σ r wo f c (30 - f)) g e (e - f) f c ≤ 2 * ((e : Int) - f) := CO_fin hwl (by omega) e1 e2 (n := 30 - f) (t := e) (x := g) e3.1 (Nat.le_refl _) (Nat.le_refl _) (by rw [CO_end, if_pos rfl]; omega)
    obtain ⟨n, n1, n2, n3⟩ := ws_len hwl (c := (c : Int)) (by omega) e1 e2 (σ := σ) (r := r) (wo := wo) (g := g) (by omega)
    have hC0 : 0 ≤ C f c := by rw [eC]; exact (CO_rng _ _ _ _ _ _ _ _ _).1
    have hi := ws_inv hwl (c := (c : Int)) (by omega) e1 e2 (σ := σ) (r := r) (wo := wo) (g := g) (by omega) n
    rw [← eC] at p2 hfin2 n1 n2 hi
    have f12 := fr_trans (fr_mono f1 (Y := [158, 159, 160, 164, 165]) (by simp)) (fr_mono f2 (Y := [158, 159, 160, 164, 165]) (by simp))
    obtain ⟨P, g3, f3, f4, p3⟩ := s_walk (FM_fr hN f2 (by decide) (by decide)) (BW_fr hBN f2 (by decide)) hwl (FL_fr hFN f2 (by decide) (by decide) (by decide) (by decide)) hc e1 e2 e3.1 C eC (by omega) p2 n1 n2 n3 (RW_fr hRN f2 (by decide) (by decide) (by decide)) hlt hlc
    have hst := wb_steps (α := α) (m0 := m0) hlt hlc n2 n (Nat.le_refl _)
    have hco := wb_cost (c0 := c0) hwl (c := (c : Int)) (by omega) e1 e2 eC (by omega) (α := α) (m0 := m0) n2 n (Nat.le_refl _)
    have hgo : (ws σ r wo e C f c n).2 = g := by
      have h5 := hi.2.2
      rw [n1] at h5
      by_cases h6 : (ws σ r wo e C f c n).2 = g
      · exact h6
      · rw [eC, CO_end, ← eC, if_neg h6] at h5
        omega
    have hz : C e g = 0 := by rw [eC, CO_end, if_pos rfl]
    refine ⟨P, fr_trans f12 (fr_mono f3 (by simp)), fun k h3 h4 => by rw [f4 k h3 h4, fr_i f2 (by decide), fr_i f1 (by decide)], Or.inl ⟨e, n, C, ?_, ⟨⟨e1, e2, e3, e4⟩, eC, hC0, hfin2, n1, n2, n3⟩, p3, by rw [hst.1, n1], by rw [hst.2, hgo], by rw [hco, n1, hgo, hz]; omega⟩⟩
    unfold g_X0_extend
    rw [g1, am_b_some]
    simp (disch := (first | omega | exact (iv_rng _ _ _).1 | exact (iv_rng _ _ _).2)) only [pi_lit, pi_nat, pi_add, pi_sub, pi_mul, pi_neg, pi_le, pi_lt, pi_eq, pi_cn, pi_ci, pi_g, am_b_some, iv_s, iv_ls, lg_s, lg_ls, if_true, if_false, Int.reduceEq, Int.reduceLT, Int.reduceLE, Int.reduceToNat, w1]
    rw [if_pos (by omega), g2, am_b_some, g3, am_b_some]
  · refine ⟨N, fr_mono f1 (by simp), fun k h3 h4 => fr_i f1 (by decide) k, Or.inr ⟨?_, hRN, hno⟩⟩
    unfold g_X0_extend
    rw [g1, am_b_some]
    simp (disch := (first | omega | exact (iv_rng _ _ _).1 | exact (iv_rng _ _ _).2)) only [pi_lit, pi_nat, pi_add, pi_sub, pi_mul, pi_neg, pi_le, pi_lt, pi_eq, pi_cn, pi_ci, pi_g, am_b_some, iv_s, iv_ls, lg_s, lg_ls, if_true, if_false, Int.reduceEq, Int.reduceLT, Int.reduceLE, Int.reduceToNat]
end QC
