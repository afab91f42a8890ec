/-! the finder begins: its masks -/
section QG
theorem FLw_fr {σ : Nat → Int} {w : Nat} {M N : am_M} (h : FLw σ w M) {X : List Nat} (hf : fr X M N) (hX : ∀ a, w + 1 ≤ a → a < w + 5 → a ∉ X) : FLw σ w N := by
  obtain ⟨h1, h2, h3, h4⟩ := h
  refine ⟨by rw [fr_i hf (hX _ (by omega) (by omega))]; exact h1, fun k hk => by rw [fr_i hf (hX _ (by omega) (by omega))]; exact h2 k hk, fun c hc => by rw [fr_i hf (hX _ (by omega) (by omega))]; exact h3 c hc, fun c a hc ha => by rw [fr_i hf (hX _ (by omega) (by omega))]; exact h4 c a hc ha⟩
theorem RB_fr {σ : Nat → Int} {w i : Nat} {M N : am_M} (h : RB σ w i M) {X : List Nat} (hf : fr X M N) (hX : ∀ a, w + 15 + 5 * i ≤ a → a < w + 20 + 5 * i → a ∉ X) : RB σ w i N := by
  obtain ⟨h1, h2, h3, h4, h5⟩ := h
  refine ⟨PR_fr h1 hf (hX _ (by omega) (by omega)) (hX _ (by omega) (by omega)) (hX _ (by omega) (by omega)), ?_, ?_, ?_, fun k hk => ?_⟩
  · rw [fr_i hf (hX _ (by omega) (by omega))]; exact h2
  · rw [fr_i hf (hX _ (by omega) (by omega))]; exact h3
  · rw [fr_i hf (hX _ (by omega) (by omega))]; exact h4
  · rw [fr_i hf (hX _ (by omega) (by omega))]; exact h5 k hk
theorem TB_fr {σ : Nat → Int} {w j : Nat} {M N : am_M} (h : TB σ w j M) {X : List Nat} (hf : fr X M N) (hX : w + 40 + j ∉ X) : TB σ w j N := by
  unfold TB at h ⊢
  simp only [fr_i hf hX]
  exact h
theorem WD_fr {σ : Nat → Int} {w : Nat} {M N : am_M} (h : WD σ w M) (h6 : σ 6 ≤ 5) (h7 : σ 7 ≤ 12) {X : List Nat} (hf : fr X M N) (hX : ∀ a, w ≤ a → a < w + 52 → a ∉ X) : WD σ w N := by
  obtain ⟨h1, h2, h3, h4, h5⟩ := h
  refine ⟨FLw_fr h1 hf (fun a b1 b2 => hX a (by omega) (by omega)), ?_, fun c hc => ?_, fun i hi => RB_fr (h4 i hi) hf (fun a b1 b2 => hX a (by omega) (by omega)), fun j hj => TB_fr (h5 j hj) hf (hX _ (by omega) (by omega))⟩
  · rw [fr_i hf (hX _ (by omega) (by omega)), fr_i hf (hX _ (by omega) (by omega)), fr_i hf (hX _ (by omega) (by omega))]; exact h2
  · rw [fr_i hf (hX _ (by omega) (by omega))]; exact h3 c hc
theorem RW_nil {σ : Nat → Int} {p : Nat} {c : Int} {α : Nat → Int} {M : am_M} (h3 : iv M p 3 = 0) (h4 : iv M p 4 = 0) (h0 : iv M (p + 2) 0 = c) : RW σ p c α 0 M := by
  unfold RW lt lco lc
  exact ⟨h3, h4, fun k j hk hj => by omega, h0⟩
theorem s_begin {σ : Nat → Int} {r : Nat} {wo : Int} {M : am_M} (hW : WD σ 1 M) (hO : OK σ) (hr : (r : Int) < σ 6) (hwo : -1 ≤ wo ∧ wo < 5) : ∃ N, g_X0_begin 158 1 (pI r) (pI wo) M = some ((), N) ∧ fr [158, 160, 162, 163] M N ∧ iv N 158 2 = σ 0 ∧ (∀ α, RW σ 158 (fp σ r 0) α 0 N) ∧ FM σ r wo N ∧ BW N := by
  obtain ⟨hC, hwl, h6, h7, hk, hRF, hTF, hNC⟩ := hO
  have hPR : ∀ N, fr [158, 160, 162, 163] M N → ∀ o : Nat, (o : Int) < σ 6 → PR σ o (17 + 5 * o) (σ 0) N := fun N hf o ho => by
    have := (hW.2.2.2.1 o ho).1
    rw [show 1 + 16 + 5 * o = 17 + 5 * o by omega] at this
    exact PR_fr this hf (fun h => by simp only [List.mem_cons, List.not_mem_nil, or_false] at h; omega) (fun h => by simp only [List.mem_cons, List.not_mem_nil, or_false] at h; omega) (fun h => by simp only [List.mem_cons, List.not_mem_nil, or_false] at h; omega)
  obtain ⟨N1, g1, f1, a1, a2, a3, a4⟩ := s_restAt (p := 158) (c := fp σ r 0) (C := σ 0) M (by omega) (by have := fp_rng (hRF r hr).1 0; omega) hC
  obtain ⟨x, g2, p2⟩ := s_walls 2 N1
  obtain ⟨N2, g3, f3, p3⟩ := s_fillMasks 162 31 x N1 (by omega)
  obtain ⟨N3, g4, f4, p4⟩ := s_fillMasks 163 210 0 N2 (by omega)
  have f13 : fr [158, 160, 162, 163] M N3 := fr_trans (fr_mono f1 (by simp)) (fr_trans (fr_mono f3 (by simp)) (fr_mono f4 (by simp)))
  have hkind : ∀ c : Nat, c < 40 → (pb x c = true ↔ σ (8 + (c : Int)).toNat = 1) := fun c hc => by
    rw [p2 c hc, fr_i f1 (by decide), hW.1.2.2.1 c hc, show (8 + (c : Int)).toNat = 8 + c by omega]
  have hc0 : ∀ t : Nat, t ≤ 30 → am_lg N3 162 t = x := fun t ht => by rw [fr_l f4 (by decide), p3, if_pos (by omega)]
  have hb0 : ∀ t : Nat, t < 210 → am_lg N3 163 t = 0 := fun t ht => by rw [p4, if_pos (by omega)]
  obtain ⟨⟨u, N⟩, g5, f5, p5, p6⟩ := lo_for (fun m (s : Int32 × am_M) => g_X0_begin_L48 1 (pI r) (pI wo) m s.1 s.2) (fun q s => s.1 = pI (q : Nat) ∧ fr [162, 163] N3 s.2 ∧ (∀ t c : Nat, t ≤ 30 → c < 40 → (pb (am_lg s.2 162 t) c = true ↔ σ (8 + (c : Int)).toNat = 1 ∨ ∃ o : Nat, o < q ∧ ot r wo o ∧ fp σ o t = c)) ∧ ∀ t a y : Nat, t < 30 → a < 7 → y < 40 → (pb (am_lg s.2 163 (7 * t + a)) y = true ↔ ∃ o : Nat, o < q ∧ ot r wo o ∧ (((1 ≤ fa σ o t ∧ fa σ o t < 5) ∧ bk (fa σ o t) = a ∧ fp σ o (t + 1) = y) ∨ (5 ≤ a ∧ ∃ k : Nat, t ≤ k ∧ k < t + 3 ∧ k ≤ 30 ∧ fa σ o k = a)))) (fun s => fr [162, 163] N3 s.2 ∧ (∀ t c : Nat, t ≤ 30 → c < 40 → (pb (am_lg s.2 162 t) c = true ↔ σ (8 + (c : Int)).toNat = 1 ∨ ∃ o : Nat, (o : Int) < σ 6 ∧ ot r wo o ∧ fp σ o t = c)) ∧ ∀ t a y : Nat, t < 30 → a < 7 → y < 40 → (pb (am_lg s.2 163 (7 * t + a)) y = true ↔ ∃ o : Nat, (o : Int) < σ 6 ∧ ot r wo o ∧ (((1 ≤ fa σ o t ∧ fa σ o t < 5) ∧ bk (fa σ o t) = a ∧ fp σ o (t + 1) = y) ∨ (5 ≤ a ∧ ∃ k : Nat, t ≤ k ∧ k < t + 3 ∧ k ≤ 30 ∧ fa σ o k = a)))) 0 (σ 6).toNat (pI 0, N3) ⟨rfl, fr_refl _ _, fun t c ht hc => by
    rw [hc0 t ht, hkind c hc]
    exact ⟨Or.inl, fun h => h.elim id (fun ⟨o, h, _⟩ => by omega)⟩, fun t a y ht ha hy => by
    rw [hb0 _ (by omega), pb_zero]
    exact ⟨fun h => (by cases h), fun ⟨o, h, _⟩ => by omega⟩⟩ (by omega) (by unfold am_fu; omega) (by
    rintro m q ⟨b, N⟩ hq ⟨e1, hf, c1, c2⟩
    dsimp only at e1 hf c1 c2
    subst e1
    left
    have hfM : fr [158, 160, 162, 163] M N := fr_trans f13 (fr_mono hf (by simp))
    have hqr := (hRF q (by omega)).1
    have e4 : iv N 1 2 = σ 6 := by rw [fr_i hfM (by decide)]; exact hW.2.1.1
    have e5 : iv N 1 4 = σ 0 := by rw [fr_i hfM (by decide)]; exact hW.2.1.2.2
    by_cases hot : ot r wo q
    · obtain ⟨O, g6, f6, q1, q2⟩ := s_avoid (p := 17 + 5 * q) (C := σ 0) (P := fp σ q) (A := fa σ q) (M := N) hC (fun N' hf' t ht => s_placeAt (hPR N' (fr_trans hfM (fr_mono hf' (by simp))) q (by omega)) hqr hC.2 (by omega)) (fun N' hf' t ht => s_actionAt (hPR N' (fr_trans hfM (fr_mono hf' (by simp))) q (by omega)) hqr hC.2 (by omega)) (fun t => by have := fp_rng hqr t; omega) (fun t => fa_rng hqr t)
      refine ⟨(pI (q + 1 : Nat), O), ?_, rfl, fr_trans hf f6, fun t c ht hc => ?_, fun t a y ht ha hy => ?_⟩
      · dsimp only
        rw [g_X0_begin_L48]
        simp (disch := (first | omega | exact (iv_rng _ _ _).1 | exact (iv_rng _ _ _).2)) only [pi_lit, pi_nat, pi_add, pi_sub, pi_mul, pi_neg, pi_le, pi_lt, pi_eq, pi_cn, pi_ci, pi_g, am_b_some, iv_s, iv_ls, lg_s, lg_ls, if_true, if_false, Int.reduceEq, Int.reduceLT, Int.reduceLE, Int.reduceToNat, e4, s_robotOf]
        have hot' := hot
        unfold ot at hot'
        rw [if_neg (by omega), if_neg hot'.1, if_neg hot'.2]
        rw [show 1 + 15 + 5 * q + 1 = 17 + 5 * q by omega, e5, g6, am_b_some]
        rfl
      · dsimp only
        rw [q1 t c ht hc, c1 t c ht hc]
        constructor
        · rintro ((h | ⟨o, h1, h2, h3⟩) | h)
          · exact Or.inl h
          · exact Or.inr ⟨o, by omega, h2, h3⟩
          · exact Or.inr ⟨q, by omega, hot, h⟩
        · rintro (h | ⟨o, h1, h2, h3⟩)
          · exact Or.inl (Or.inl h)
          · by_cases h4 : o = q
            · subst h4; exact Or.inr h3
            · exact Or.inl (Or.inr ⟨o, by omega, h2, h3⟩)
      · dsimp only
        rw [q2 t a y ht ha hy, c2 t a y ht ha hy]
        constructor
        · rintro (⟨o, h1, h2, h3⟩ | h)
          · exact ⟨o, by omega, h2, h3⟩
          · exact ⟨q, by omega, hot, h.elim Or.inl (fun h5 => Or.inr ⟨by omega, h5.2⟩)⟩
        · rintro ⟨o, h1, h2, h3⟩
          by_cases h4 : o = q
          · subst h4
            right
            exact h3.elim Or.inl (fun h5 => Or.inr ⟨by omega, h5.2⟩)
          · exact Or.inl ⟨o, by omega, h2, h3⟩
    · refine ⟨(pI (q + 1 : Nat), N), ?_, rfl, hf, fun t c ht hc => ?_, fun t a y ht ha hy => ?_⟩
      · dsimp only
        rw [g_X0_begin_L48]
        simp (disch := (first | omega | exact (iv_rng _ _ _).1 | exact (iv_rng _ _ _).2)) only [pi_lit, pi_nat, pi_add, pi_sub, pi_mul, pi_neg, pi_le, pi_lt, pi_eq, pi_cn, pi_ci, pi_g, am_b_some, iv_s, iv_ls, lg_s, lg_ls, if_true, if_false, Int.reduceEq, Int.reduceLT, Int.reduceLE, Int.reduceToNat, e4]
        rw [if_neg (by omega)]
        unfold ot at hot
        by_cases h1 : (q : Int) = r
        · rw [if_pos h1]; rfl
        · rw [if_neg h1, if_pos (by omega)]; rfl
      · dsimp only
        rw [c1 t c ht hc]
        constructor
        · rintro (h | ⟨o, h1, h2, h3⟩)
          · exact Or.inl h
          · exact Or.inr ⟨o, by omega, h2, h3⟩
        · rintro (h | ⟨o, h1, h2, h3⟩)
          · exact Or.inl h
          · by_cases h4 : o = q
            · subst h4; exact absurd h2 hot
            · exact Or.inr ⟨o, by omega, h2, h3⟩
      · dsimp only
        rw [c2 t a y ht ha hy]
        constructor
        · rintro ⟨o, h1, h2, h3⟩
          exact ⟨o, by omega, h2, h3⟩
        · rintro ⟨o, h1, h2, h3⟩
          by_cases h4 : o = q
          · subst h4; exact absurd h2 hot
          · exact ⟨o, by omega, h2, h3⟩) (by
    rintro m ⟨b, N⟩ ⟨e1, hf, c1, c2⟩
    dsimp only at e1 hf c1 c2
    subst e1
    have hfM : fr [158, 160, 162, 163] M N := fr_trans f13 (fr_mono hf (by simp))
    have e4 : iv N 1 2 = σ 6 := by rw [fr_i hfM (by decide)]; exact hW.2.1.1
    refine ⟨((), N), ?_, hf, fun t c ht hc => (c1 t c ht hc).trans ⟨?_, ?_⟩, fun t a y ht ha hy => (c2 t a y ht ha hy).trans ⟨?_, ?_⟩⟩
    · dsimp only
      rw [g_X0_begin_L48]
      simp (disch := (first | omega | exact (iv_rng _ _ _).1 | exact (iv_rng _ _ _).2)) only [pi_lit, pi_nat, pi_add, pi_sub, pi_mul, pi_neg, pi_le, pi_lt, pi_eq, pi_cn, pi_ci, pi_g, am_b_some, iv_s, iv_ls, lg_s, lg_ls, if_true, if_false, Int.reduceEq, Int.reduceLT, Int.reduceLE, Int.reduceToNat, e4]
      rw [if_pos (by omega)]
    · exact fun h => h.elim Or.inl (fun ⟨o, h1, h2⟩ => Or.inr ⟨o, by omega, h2⟩)
    · exact fun h => h.elim Or.inl (fun ⟨o, h1, h2⟩ => Or.inr ⟨o, by omega, h2⟩)
    · exact fun ⟨o, h1, h2⟩ => ⟨o, by omega, h2⟩
    · exact fun ⟨o, h1, h2⟩ => ⟨o, by omega, h2⟩)
  dsimp only at g5 f5 p5 p6
  have hfM : fr [158, 160, 162, 163] M N := fr_trans f13 (fr_mono f5 (by simp))
  have f4N : fr [162, 163] N1 N := fr_trans (fr_mono f3 (by simp)) (fr_trans (fr_mono f4 (by simp)) f5)
  refine ⟨N, ?_, hfM, by rw [fr_i f4N (by decide)]; exact a1, fun α => RW_nil (by rw [fr_i f4N (by decide)]; exact a2) (by rw [fr_i f4N (by decide)]; exact a3) (by rw [fr_i f4N (by decide)]; exact a4), ⟨fun t c ht hc => ?_, fun t a y ht b1 b2 hy hn => ?_, fun t l y ht hl hy => ?_⟩, fun t y ht hy => ?_⟩
  · unfold g_X0_begin
    have e5 : iv M 1 4 = σ 0 := hW.2.1.2.2
    have e6 : iv N1 1 4 = σ 0 := by rw [fr_i f1 (by decide)]; exact e5
    have g7 := s_robotOf (w := 1) (r := r) M (by omega)
    have g8 := s_placeAt (hPR M (fr_refl _ _) r hr) (hRF r hr).1 hC.2 (t := 0) (by omega)
    rw [show σ 0 + ((0 : Nat) : Int) = σ 0 by omega] at g8
    have e7 : am_g M 1 4 = pI (σ 0) := by rw [pi_g, e5]
    rw [g7, am_b_some, show 1 + 15 + 5 * r + 1 = 17 + 5 * r by omega, e7, g8, am_b_some, e7, g1, am_b_some, g2, am_b_some, g3, am_b_some, g4, am_b_some]
    exact (congrArg (fun y => am_b y _) g5).trans rfl
  · rw [p5 t c ht hc]
    unfold fre
    constructor
    · rintro (h | ⟨o, h1, h2, h3⟩) ⟨q1, q2⟩
      · exact q1 h
      · exact q2 o h1 h2 h3
    · intro h
      by_cases h1 : σ (8 + (c : Int)).toNat = 1
      · exact Or.inl h1
      · by_cases h2 : ∃ o : Nat, (o : Int) < σ 6 ∧ ot r wo o ∧ fp σ o t = c
        · exact Or.inr h2
        · exact absurd ⟨h1, fun o q1 q2 q3 => h2 ⟨o, q1, q2, q3⟩⟩ h
  · rw [p6 t a y ht (by omega) hy]
    unfold swp
    constructor
    · rintro ⟨o, h1, h2, h3 | h3⟩
      · exact ⟨o, h1, h2, (sw_iff (hRF o h1).1 ⟨b1, b2⟩ hy hn).mp h3⟩
      · omega
    · rintro ⟨o, h1, h2, h3⟩
      exact ⟨o, h1, h2, Or.inl ((sw_iff (hRF o h1).1 ⟨b1, b2⟩ hy hn).mpr h3)⟩
  · rw [show 7 * t + 5 + l = 7 * t + (5 + l) by omega, p6 t (5 + l) y (by omega) (by omega) hy]
    unfold lfr
    constructor
    · rintro ⟨o, h1, h2, h3 | ⟨h3, k, k1, k2, k3, k4⟩⟩ h
      · have := bk_rng h3.1; omega
      · refine h o h1 h2 k k1 k2 ?_
        unfold fl
        rw [if_neg (by omega)]
        omega
    · intro h
      by_cases h2 : ∃ o : Nat, (o : Int) < σ 6 ∧ ot r wo o ∧ ∃ k : Nat, t ≤ k ∧ k < t + 3 ∧ fl σ o k = l
      · obtain ⟨o, h1, h3, k, k1, k2, k3⟩ := h2
        refine ⟨o, h1, h3, Or.inr ⟨by omega, k, k1, k2, by omega, ?_⟩⟩
        unfold fl at k3
        split at k3 <;> omega
      · exact absurd (fun o h1 h3 k k1 k2 k3 => h2 ⟨o, h1, h3, k, k1, k2, k3⟩) h
  · have h1 := p6 t 0 y ht (by omega) hy
    by_cases h2 : pb (am_lg N 163 (7 * t)) y = true
    · obtain ⟨o, h3, h4, h5 | h5⟩ := h1.mp h2
      · have := bk_rng h5.1; omega
      · omega
    · simpa using h2
end QG
