/-! a world of the class against a row of the model; the finder begins -/
section QF
def FLw (σ : Nat → Int) (w : Nat) (M : am_M) : Prop := iv M (w + 1) 3 = σ 1 ∧ (∀ k : Nat, (k : Int) < 2 * σ 1 → iv M (w + 4) k = σ (2 + k)) ∧ (∀ c : Nat, c < 40 → iv M (w + 2) c = σ (8 + c)) ∧ ∀ c a : Nat, c < 40 → a < 7 → iv M (w + 3) (7 * c + a) = mvs σ c a
theorem FLw_one {σ : Nat → Int} {M : am_M} (h : FLw σ 1 M) : FL σ M := h
def RB (σ : Nat → Int) (w i : Nat) (M : am_M) : Prop := PR σ i (w + 16 + 5 * i) (σ 0) M ∧ iv M (w + 15 + 5 * i) 2 = ro σ i 1 ∧ iv M (w + 15 + 5 * i) 3 = ro σ i 4 ∧ iv M (w + 15 + 5 * i) 4 = σ 0 - ro σ i 10 ∧ ∀ k : Nat, k < 5 → iv M (w + 19 + 5 * i) k = ro σ i (5 + k)
def TB (σ : Nat → Int) (w j : Nat) (M : am_M) : Prop := (iv M (w + 40 + j) 0 = it σ j 0 ∧ iv M (w + 40 + j) 1 = it σ j 1 ∧ iv M (w + 40 + j) 2 = it σ j 2 ∧ iv M (w + 40 + j) 3 = it σ j 3) ∧ iv M (w + 40 + j) 4 = it σ j 8 ∧ iv M (w + 40 + j) 5 = it σ j 4 ∧ iv M (w + 40 + j) 6 = (if it σ j 4 = 3 then it σ j 5 else 0) ∧ iv M (w + 40 + j) 7 = it σ j 6 ∧ iv M (w + 40 + j) 8 = it σ j 7
def WD (σ : Nat → Int) (w : Nat) (M : am_M) : Prop := FLw σ w M ∧ (iv M w 2 = σ 6 ∧ iv M w 3 = σ 7 ∧ iv M w 4 = σ 0) ∧ (∀ c : Nat, c < 40 → iv M (w + 6) c = σ (48 + c)) ∧ (∀ i : Nat, (i : Int) < σ 6 → RB σ w i M) ∧ ∀ j : Nat, (j : Int) < σ 7 → TB σ w j M
/-- a row is fit -/
def RF (σ : Nat → Int) (r : Nat) : Prop := wr σ r ∧ (∀ t : Nat, 0 ≤ fp σ r t → σ (8 + fp σ r t).toNat ≠ 1) ∧ (0 ≤ ro σ r 10 ∧ ro σ r 10 ≤ σ 0 ∧ 0 ≤ ro σ r 7 ∧ ro σ r 7 ≤ ro σ r 10) ∧ (-1 ≤ ro σ r 4 ∧ ro σ r 4 < σ 7) ∧ (0 ≤ ro σ r 4 → 0 < ro σ r 2 ∧ it σ (ro σ r 4) 4 = 1 ∧ it σ (ro σ r 4) 6 = r)
def TF (σ : Nat → Int) (j : Nat) : Prop := (0 ≤ it σ j 0 ∧ it σ j 0 < 40) ∧ (0 ≤ it σ j 1 ∧ it σ j 1 < 40) ∧ it σ j 0 ≠ it σ j 1 ∧ (0 ≤ it σ j 2 ∧ it σ j 2 ≤ 1000) ∧ (0 ≤ it σ j 3 ∧ it σ j 3 ≤ 1000) ∧ (0 ≤ it σ j 4 ∧ it σ j 4 ≤ 3) ∧ (it σ j 4 = 0 ∨ it σ j 4 = 3 → it σ j 6 = -1)
def OK (σ : Nat → Int) : Prop := (0 ≤ σ 0 ∧ σ 0 ≤ 1000) ∧ wl σ ∧ (0 ≤ σ 6 ∧ σ 6 ≤ 5) ∧ (0 ≤ σ 7 ∧ σ 7 ≤ 12) ∧ (∀ c : Nat, c < 40 → 0 ≤ σ (8 + c) ∧ σ (8 + c) ≤ 2) ∧ (∀ r : Nat, (r : Int) < σ 6 → RF σ r) ∧ (∀ j : Nat, (j : Int) < σ 7 → TF σ j) ∧ ∀ r o : Nat, (r : Int) < σ 6 → (o : Int) < σ 6 → r ≠ o → ∀ t : Nat, 0 ≤ fp σ r t → fp σ o t ≠ fp σ r t
theorem s_robotOf {w r : Nat} (M : am_M) (hr : r < 5) : g_X8_robotOf w (pI r) M = some (w + 15 + 5 * r, M) := by
  unfold g_X8_robotOf
  simp (disch := (first | omega | exact (iv_rng _ _ _).1 | exact (iv_rng _ _ _).2)) only [pi_lit, pi_nat, pi_add, pi_sub, pi_mul, pi_neg, pi_le, pi_lt, pi_eq, pi_cn, pi_ci, pi_g, am_b_some, iv_s, iv_ls, lg_s, lg_ls, if_true, if_false, Int.reduceEq, Int.reduceLT, Int.reduceLE, Int.reduceToNat]
  rw [if_neg (by omega), if_neg (by omega), Int.toNat_natCast, show w + 7 + 8 + 5 * r = w + 15 + 5 * r by omega]
theorem s_walls (t : Nat) (M : am_M) : ∃ x, g_X1_walls t M = some (x, M) ∧ ∀ c : Nat, c < 40 → (pb x c = true ↔ iv M (t + 1) c = 1) := by
  obtain ⟨⟨x, N⟩, g1, e1, p1⟩ := lo_for (fun m (s : Int64 × Int32 × am_M) => g_X1_walls_L4 t m s.1 s.2.1 s.2.2) (fun q s => s.2.1 = pI (q : Nat) ∧ s.2.2 = M ∧ ∀ c : Nat, c < 40 → (pb s.1 c = true ↔ c < q ∧ iv M (t + 1) c = 1)) (fun s => s.2 = M ∧ ∀ c : Nat, c < 40 → (pb s.1 c = true ↔ iv M (t + 1) c = 1)) 0 40 (0, pI 0, M) ⟨rfl, rfl, fun c hc => by
    rw [pb_zero]
    exact ⟨fun h => (by cases h), fun h => by omega⟩⟩ (by omega) (by unfold am_fu; omega) (by
    rintro m q ⟨x, b, N⟩ hq ⟨e1, e2, p⟩
    dsimp only at e1 e2 p
    subst e1 e2
    left
    by_cases h1 : iv N (t + 1) q = 1
    · refine ⟨(x ||| bm q, pI (q + 1 : Nat), N), ?_, rfl, rfl, fun c hc => ?_⟩
      · dsimp only
        rw [g_X1_walls_L4]
        have g2 := s_isWall t (c := (q : Int)) N (by omega) (by omega)
        rw [Int.toNat_natCast, if_pos h1] at g2
        simp (disch := (first | omega | exact (iv_rng _ _ _).1 | exact (iv_rng _ _ _).2)) only [pi_lit, pi_nat, pi_add, pi_sub, pi_mul, pi_neg, pi_le, pi_lt, pi_eq, pi_cn, pi_ci, pi_g, am_b_some, iv_s, iv_ls, lg_s, lg_ls, if_true, if_false, Int.reduceEq, Int.reduceLT, Int.reduceLE, Int.reduceToNat, g2, s_bit]
        rw [if_neg (by omega)]
        rfl
      · dsimp only
        rw [pb_or, Bool.or_eq_true, p c hc, pb_bm, decide_eq_true_eq]
        constructor
        · rintro (h | h)
          · exact ⟨by omega, h.2⟩
          · have : c = q := by omega
            subst this
            exact ⟨by omega, h1⟩
        · intro h
          by_cases h2 : c = q
          · right; omega
          · left; exact ⟨by omega, h.2⟩
    · refine ⟨(x, pI (q + 1 : Nat), N), ?_, rfl, rfl, fun c hc => ?_⟩
      · dsimp only
        rw [g_X1_walls_L4]
        have g2 := s_isWall t (c := (q : Int)) N (by omega) (by omega)
        rw [Int.toNat_natCast, if_neg h1] at g2
        simp (disch := (first | omega | exact (iv_rng _ _ _).1 | exact (iv_rng _ _ _).2)) only [pi_lit, pi_nat, pi_add, pi_sub, pi_mul, pi_neg, pi_le, pi_lt, pi_eq, pi_cn, pi_ci, pi_g, am_b_some, iv_s, iv_ls, lg_s, lg_ls, if_true, if_false, Int.reduceEq, Int.reduceLT, Int.reduceLE, Int.reduceToNat, g2, s_bit]
        rw [if_neg (by omega)]
        rfl
      · dsimp only
        rw [p c hc]
        constructor
        · intro h; exact ⟨by omega, h.2⟩
        · intro h
          by_cases h2 : c = q
          · subst h2; exact absurd h.2 h1
          · exact ⟨by omega, h.2⟩) (by
    rintro m ⟨x, b, N⟩ ⟨e1, e2, p⟩
    dsimp only at e1 e2 p
    subst e1 e2
    refine ⟨(x, N), ?_, rfl, fun c hc => (p c hc).trans ⟨fun h => h.2, fun h => ⟨hc, h⟩⟩⟩
    dsimp only
    rw [g_X1_walls_L4]
    simp (disch := (first | omega | exact (iv_rng _ _ _).1 | exact (iv_rng _ _ _).2)) only [pi_lit, pi_nat, pi_add, pi_sub, pi_mul, pi_neg, pi_le, pi_lt, pi_eq, pi_cn, pi_ci, pi_g, am_b_some, iv_s, iv_ls, lg_s, lg_ls, if_true, if_false, Int.reduceEq, Int.reduceLT, Int.reduceLE, Int.reduceToNat]
    rw [if_pos (by omega)])
  dsimp only at g1 e1 p1
  subst e1
  refine ⟨x, ?_, p1⟩
  unfold g_X1_walls
  rw [show (0 : Int32) = pI 0 from rfl, g1, am_b_some]
theorem s_restAt {p : Nat} {c C : Int} (M : am_M) (hp : p < 1000) (hc : -100 ≤ c ∧ c < 100) (hC : 0 ≤ C ∧ C ≤ 1000) : ∃ N, g_X2_restAt p (pI c) (pI C) M = some ((), N) ∧ fr [p, p + 2] M N ∧ iv N p 2 = C ∧ iv N p 3 = 0 ∧ iv N p 4 = 0 ∧ iv N (p + 2) 0 = c := by
  refine ⟨am_s (am_s (am_s (am_s M (p + 2) 0 (pI c)) p 2 (pI C)) p 3 (pI 0)) p 4 (pI 0), ?_, fr_trans (fr_s (by simp)) (fr_trans (fr_s (by simp)) (fr_trans (fr_s (by simp)) (fr_s (by simp)))), ?_, ?_, ?_, ?_⟩
  · unfold g_X2_restAt
    simp (disch := (first | omega | exact (iv_rng _ _ _).1 | exact (iv_rng _ _ _).2)) only [pi_lit, pi_nat, pi_add, pi_sub, pi_mul, pi_neg, pi_le, pi_lt, pi_eq, pi_cn, pi_ci, pi_g, am_b_some, iv_s, iv_ls, lg_s, lg_ls, if_true, if_false, Int.reduceEq, Int.reduceLT, Int.reduceLE, Int.reduceToNat, s_put]
  · simp (disch := (first | omega | exact (iv_rng _ _ _).1 | exact (iv_rng _ _ _).2)) only [pi_lit, pi_nat, pi_add, pi_sub, pi_mul, pi_neg, pi_le, pi_lt, pi_eq, pi_cn, pi_ci, pi_g, am_b_some, iv_s, iv_ls, lg_s, lg_ls]
    rw [if_neg (by omega), if_neg (by omega), if_pos (by simp)]
  · simp (disch := (first | omega | exact (iv_rng _ _ _).1 | exact (iv_rng _ _ _).2)) only [pi_lit, pi_nat, pi_add, pi_sub, pi_mul, pi_neg, pi_le, pi_lt, pi_eq, pi_cn, pi_ci, pi_g, am_b_some, iv_s, iv_ls, lg_s, lg_ls]
    rw [if_neg (by omega), if_pos (by simp)]
  · simp (disch := (first | omega | exact (iv_rng _ _ _).1 | exact (iv_rng _ _ _).2)) only [pi_lit, pi_nat, pi_add, pi_sub, pi_mul, pi_neg, pi_le, pi_lt, pi_eq, pi_cn, pi_ci, pi_g, am_b_some, iv_s, iv_ls, lg_s, lg_ls]
    rw [if_pos (by simp)]
  · simp (disch := (first | omega | exact (iv_rng _ _ _).1 | exact (iv_rng _ _ _).2)) only [pi_lit, pi_nat, pi_add, pi_sub, pi_mul, pi_neg, pi_le, pi_lt, pi_eq, pi_cn, pi_ci, pi_g, am_b_some, iv_s, iv_ls, lg_s, lg_ls]
    rw [if_neg (by omega), if_neg (by omega), if_neg (by omega), if_pos (by simp)]
theorem nb_back {x a : Int} (hx : 0 ≤ x ∧ x < 40) (ha : 1 ≤ a ∧ a < 5) (h : 0 ≤ nb x a) : nb (nb x a) (bk a) = x := by
  have key : ∀ x : Fin 40, ∀ a : Fin 5, 1 ≤ a.1 → 0 ≤ nb (x.1 : Nat) (a.1 : Nat) → nb (nb (x.1 : Nat) (a.1 : Nat)) (bk (a.1 : Nat)) = (x.1 : Nat) := by decide +kernel
  have := key ⟨x.toNat, by omega⟩ ⟨a.toNat, by omega⟩
  dsimp only at this
  rw [show ((x.toNat : Nat) : Int) = x by omega, show ((a.toNat : Nat) : Int) = a by omega] at this
  exact this (by omega) h
theorem nb_inj {x a b : Int} (hx : 0 ≤ x ∧ x < 40) (ha : 1 ≤ a ∧ a < 5) (hb : 1 ≤ b ∧ b < 5) (h : 0 ≤ nb x a) (he : nb x a = nb x b) : a = b := by
  have key : ∀ x : Fin 40, ∀ a b : Fin 5, 1 ≤ a.1 → 1 ≤ b.1 → 0 ≤ nb (x.1 : Nat) (a.1 : Nat) → nb (x.1 : Nat) (a.1 : Nat) = nb (x.1 : Nat) (b.1 : Nat) → a = b := by decide +kernel
  have := key ⟨x.toNat, by omega⟩ ⟨a.toNat, by omega⟩ ⟨b.toNat, by omega⟩
  dsimp only at this
  rw [show ((x.toNat : Nat) : Int) = x by omega, show ((a.toNat : Nat) : Int) = a by omega, show ((b.toNat : Nat) : Int) = b by omega] at this
  have := congrArg Fin.val (this (by omega) (by omega) h he)
  dsimp only at this
  omega
theorem bk_rng {a : Int} (h : 1 ≤ a ∧ a < 5) : 1 ≤ bk a ∧ bk a < 5 := by
  unfold bk
  split <;> omega
theorem nb_ne {x a : Int} (h : 1 ≤ a ∧ a < 5) (hn : 0 ≤ nb x a) : nb x a ≠ x := by
  unfold nb at hn ⊢
  split at hn <;> split at hn <;> (try split at hn) <;> (try split at hn) <;> (try split at hn) <;> simp_all <;> omega
theorem sw_iff {σ : Nat → Int} {o : Int} (hw : wr σ o) {t y a : Nat} (ha : 1 ≤ a ∧ a ≤ 4) (hy : y < 40) (hn : nb y a ≠ -1) : ((1 ≤ fa σ o t ∧ fa σ o t < 5) ∧ bk (fa σ o t) = a ∧ fp σ o (t + 1) = y) ↔ (fp σ o t = nb y a ∧ fp σ o (t + 1) = y) := by
  have hnr := nb_rng (c := (y : Int)) (a := (a : Int)) (by omega) (by omega)
  have hfr := fp_rng hw t
  constructor
  · rintro ⟨h1, h2, h3⟩
    obtain ⟨q1, q2, q3⟩ := fp_move hw h1
    have := nb_back (x := fp σ o t) ⟨q1, hfr.2⟩ h1 (by omega)
    rw [← q2, h2, h3] at this
    exact ⟨this.symm, h3⟩
  · rintro ⟨h1, h2⟩
    have hfa := fa_rng hw t
    have h4 : 1 ≤ fa σ o t := by
      by_cases h5 : fa σ o t = 0
      · have := (fp_wait hw h5).2
        rw [h1, h2] at this
        exact absurd this.symm (nb_ne (by omega) (by omega))
      · omega
    have h5 : fa σ o t < 5 := by
      by_cases h6 : fa σ o t < 5
      · exact h6
      · have := fp_ride hw (t := t) (by omega) (by omega)
        omega
    obtain ⟨q1, q2, q3⟩ := fp_move hw ⟨h4, h5⟩
    have h6 := nb_back (x := fp σ o t) ⟨q1, hfr.2⟩ ⟨h4, h5⟩ (by omega)
    rw [← q2, h2] at h6
    have hb := bk_rng ⟨h4, h5⟩
    refine ⟨⟨h4, h5⟩, ?_, h2⟩
    exact (nb_inj (x := (y : Int)) (by omega) (by omega) (by omega) (by omega) (by rw [h6, h1])).symm
end QF
