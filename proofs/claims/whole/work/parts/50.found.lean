/-! a route that was found, on both sides -/
section QI
def rtg (σ : Nat → Int) (r wo : Int) (f : Nat) (c g fin : Int) (α : Nat → Int) (n : Nat) : Prop := ∃ (e : Nat) (C : Nat → Int → Int), rout σ r wo f c g fin e n C ∧ ∀ k : Nat, k < n → α k = wa σ r wo e C f c k
theorem rtg_uniq {σ : Nat → Int} {r wo : Int} {f : Nat} {c g fin : Int} {α β : Nat → Int} {n m : Nat} (h : rtg σ r wo f c g fin α n) (h2 : rtg σ r wo f c g fin β m) : n = m ∧ ∀ k, k < n → α k = β k := by
  obtain ⟨e, C, ⟨⟨a1, a2, a3, a4⟩, a5, a6, a7, a8, a9, a10⟩, a11⟩ := h
  obtain ⟨e', C', ⟨⟨b1, b2, b3, b4⟩, b5, b6, b7, b8, b9, b10⟩, b11⟩ := h2
  have he : e = e' := by
    by_cases q1 : e < e'
    · exact absurd a3 (b4 e a1 q1)
    · by_cases q2 : e' < e
      · exact absurd b3 (a4 e' b1 q2)
      · omega
  subst he
  have hC : C = C' := by rw [a5, b5]
  subst hC
  have hn : n = m := by
    by_cases q1 : n < m
    · have := b9 n q1; omega
    · by_cases q2 : m < n
      · have := a9 m q2; omega
      · omega
  subst hn
  exact ⟨rfl, fun k hk => by rw [a11 k hk, b11 k hk]⟩
theorem rtg_congr {σ : Nat → Int} {r wo : Int} {f : Nat} {c g fin : Int} {α β : Nat → Int} {n : Nat} (h : rtg σ r wo f c g fin α n) (e : ∀ k, k < n → α k = β k) : rtg σ r wo f c g fin β n := by
  obtain ⟨e', C, h1, h2⟩ := h
  exact ⟨e', C, h1, fun k hk => by rw [← e k hk, h2 k hk]⟩
theorem rtg_ok {σ : Nat → Int} {r wo : Int} {f : Nat} {c g fin : Int} {α : Nat → Int} {n : Nat} (h : rtg σ r wo f c g fin α n) : ∃ e, f ≤ e ∧ e ≤ 30 ∧ okE σ r wo f c g fin e := by
  obtain ⟨e, C, h1, h2⟩ := h
  exact ⟨e, h1.1.1, h1.1.2.1, h1.1.2.2.1⟩
theorem rtg_facts {σ : Nat → Int} (hwl : wl σ) {r wo : Int} {f : Nat} {c g fin : Int} (hc : 0 ≤ c ∧ c < 40) {α : Nat → Int} {n : Nat} (h : rtg σ r wo f c g fin α n) : f + lt α n ≤ 30 ∧ lc σ c α n = g ∧ (0 ≤ lco α n ∧ lco α n ≤ 60) ∧ (∀ k : Nat, k < n → (0 ≤ α k ∧ α k < 7) ∧ leg σ r wo (lc σ c α k) (α k) (f + lt α k)) ∧ (fin ≠ 0 → ∀ t : Nat, f + lt α n ≤ t → t ≤ 30 → fre σ r wo g t) ∧ ∃ (e : Nat) (C : Nat → Int → Int), rout σ r wo f c g fin e n C ∧ f + lt α n = e ∧ lco α n = C f c := by
  obtain ⟨e, C, hr, hα⟩ := h
  have hr' := hr
  obtain ⟨⟨a1, a2, a3, a4⟩, a5, a6, a7, a8, a9, a10⟩ := hr
  have hst : C f c < 1000000 := by omega
  have hst2 := hst
  rw [a5] at hst2
  have hs : ∀ i, i ≤ n → f + lt α i = (ws σ r wo e C f c i).1 ∧ lc σ c α i = (ws σ r wo e C f c i).2 ∧ lco α i = C f c - C (ws σ r wo e C f c i).1 (ws σ r wo e C f c i).2 := by
    intro i
    induction i with
    | zero => intro _; exact ⟨rfl, rfl, by show (0 : Int) = C f c - C f c; omega⟩
    | succ i ih =>
      intro hi
      obtain ⟨h1, h2, h3⟩ := ih (by omega)
      have h4 := a9 i (by omega)
      have h5 := wa_best hwl hc a1 a2 hst2 i (by rw [← a5]; exact h4)
      rw [← a5] at h5
      have h6 := h5.2.1.2.2
      have htp := tk_pos (wa σ r wo e C f c i)
      rw [lt, lc, lco, hα i (by omega), h2, h3, ws, if_pos h4]
      dsimp only
      unfold wa at htp h6 ⊢
      exact ⟨by omega, rfl, by omega⟩
  have hinv := ws_inv hwl hc a1 a2 hst2 n
  rw [← a5] at hinv
  obtain ⟨h1, h2, h3⟩ := hs n (Nat.le_refl _)
  rw [a8] at h1 h3
  have hg : (ws σ r wo e C f c n).2 = g := by
    have h5 := hinv.2.2
    rw [a8] at h5
    by_cases h6 : (ws σ r wo e C f c n).2 = g
    · exact h6
    · rw [a5, CO_end, ← a5, if_neg h6] at h5
      omega
  have hz : C e g = 0 := by rw [a5, CO_end, if_pos rfl]
  rw [hg] at h2 h3
  rw [hz] at h3
  refine ⟨by omega, h2, by omega, fun k hk => ?_, fun hfin t t1 t2 => a3.2 hfin t (by omega) t2, e, C, hr', h1, by omega⟩
  obtain ⟨q1, q2, q3⟩ := hs k (by omega)
  have h5 := wa_best hwl hc a1 a2 hst2 k (by rw [← a5]; exact a9 k hk)
  rw [← a5] at h5
  have h6 := h5.1
  rw [hα k hk, q2, q1]
  exact ⟨by omega, h5.2.1.2.1⟩
theorem rtg_LG {σ : Nat → Int} (hwl : wl σ) {r wo c g : Int} (hc : 0 ≤ c ∧ c < 40) {α : Nat → Int} {n : Nat} (h : rtg σ r wo 0 c g 1 α n) : LG σ r wo c α n := by
  obtain ⟨h1, h2, h3, h4, h5, h6⟩ := rtg_facts hwl hc h
  rw [Nat.zero_add] at h1 h5
  refine ⟨hc, fun k hk => ?_, h1, fun t t1 t2 => by rw [h2]; exact h5 (by omega) t t1 t2⟩
  have := h4 k hk
  rw [Nat.zero_add] at this
  exact this
theorem fp_zero {σ : Nat → Int} {r : Int} (h : ro σ r 3 = 0) : fp σ r 0 = ro σ r 0 := by
  unfold fp fs
  dsimp only
  rw [if_neg (by omega)]
theorem fp_lift {σ : Nat → Int} {r : Int} (hw : wr σ r) (h : 0 < ro σ r 3) : fp σ r 0 < 0 := by
  have h1 := hw.2.2.2.2.1 h
  unfold fp fa fs fw
  dsimp only
  rw [if_pos h, if_pos (by omega)]
  show 4 - ac σ r ((0 : Nat) : Int) < 0
  rw [show ((0 : Nat) : Int) = 0 from rfl]
  omega
theorem ro_cell {σ : Nat → Int} {r : Int} (hw : wr σ r) : 0 ≤ ro σ r 0 ∧ ro σ r 0 < 40 := by
  have := hw.2.2.1 0 (by have := hw.1; omega)
  exact this
/-- begin, then extend -/
theorem s_final {σ : Nat → Int} {r : Nat} {wo g : Int} {M : am_M} (hW : WD σ 1 M) (hO : OK σ) (hr : (r : Int) < σ 6) (hwo : -1 ≤ wo ∧ wo < 5) (hl : ro σ r 3 = 0) (hg : 0 ≤ g ∧ g < 40) : ∃ N1 N, g_X0_begin 158 1 (pI r) (pI wo) M = some ((), N1) ∧ fr [158, 160, 162, 163] M N1 ∧ (∃ x, g_X0_endOf 158 (pI g) (pI 1) N1 = some (pI x, N) ∧ fr [164] N1 N ∧ (((0 ≤ x ∧ x ≤ 30) ∧ ∃ e, e ≤ 30 ∧ okE σ r wo 0 (ro σ r 0) g 1 e) ∨ (x = -1 ∧ ∀ e', e' ≤ 30 → ¬ okE σ r wo 0 (ro σ r 0) g 1 e'))) ∧ ∃ O, fr [158, 159, 160, 164, 165] N1 O ∧ iv O 158 2 = σ 0 ∧ ((∃ α n, g_X0_extend 158 (pI g) (pI 1) N1 = some (pI 1, O) ∧ rtg σ r wo 0 (ro σ r 0) g 1 α n ∧ RW σ 158 (ro σ r 0) α n O) ∨ (g_X0_extend 158 (pI g) (pI 1) N1 = some (pI 0, O) ∧ ∀ e', e' ≤ 30 → ¬ okE σ r wo 0 (ro σ r 0) g 1 e')) := by
  obtain ⟨N1, g1, f1, a1, a2, a3, a4⟩ := s_begin hW hO hr hwo
  have hRF := hO.2.2.2.2.2.1 r hr
  have hcell := ro_cell hRF.1
  rw [fp_zero hl] at a2
  obtain ⟨c, ec⟩ : ∃ c : Nat, (c : Int) = ro σ r 0 := ⟨(ro σ r 0).toNat, by omega⟩
  rw [← ec] at a2 hcell ⊢
  have hFL : FL σ N1 := FLw_one (FLw_fr hW.1 f1 (by intro a b1 b2 h; simp only [List.mem_cons, List.not_mem_nil, or_false] at h; omega))
  have b := a2 (fun _ => 0)
  obtain ⟨x, N, g2, f2, t2, hx⟩ := s_endOf (fin := 1) (f := 0) (c := c) (g := g) a3 hO.2.1 hFL (by omega) (by omega) hg (by omega) b.1 b.2.2.2
  obtain ⟨O, f3, a5, hO3⟩ := s_extend (fin := 1) (f := 0) (c := c) (g := g) (m0 := 0) (α := fun _ => 0) (c0 := c) a3 a4 hO.2.1 hFL (by omega) (by omega) hg (by omega) b rfl rfl
  refine ⟨N1, N, g1, f1, ⟨x, g2, f2, ?_⟩, O, f3, by rw [a5 2 (by omega) (by omega)]; exact a1, ?_⟩
  · rcases hx with ⟨e, e1, e2, e3, e4, e5⟩ | ⟨e1, e2⟩
    · exact Or.inl ⟨⟨by omega, by omega⟩, e, e3, e4⟩
    · exact Or.inr ⟨e1, fun e' he => e2 e' (by omega) he⟩
  · rcases hO3 with ⟨e, n, C, g3, h3, h4, h5, h6, h7⟩ | ⟨g3, h3, h4⟩
    · refine Or.inl ⟨wb σ r wo e C 0 c (fun _ => 0) 0, n, g3, ⟨e, C, h3, fun k hk => ?_⟩, ?_⟩
      · unfold wb
        rw [if_neg (by omega), Nat.sub_zero]
      · rw [Nat.zero_add] at h4
        exact h4
    · exact Or.inr ⟨g3, fun e' he => h4 e' (by omega) he⟩
theorem s_findFinal {σ : Nat → Int} {r : Nat} {g : Int} {M : am_M} (hW : WD σ 1 M) (hO : OK σ) (hr : (r : Int) < σ 6) (hl : ro σ r 3 = 0) (hg : 0 ≤ g ∧ g < 40) : ∃ O, fr [158, 159, 160, 162, 163, 164, 165] M O ∧ iv O 158 2 = σ 0 ∧ ((∃ α n, g_X3_findFinal (pI r) (pI g) M = some (pI 1, O) ∧ rtg σ r (-1) 0 (ro σ r 0) g 1 α n ∧ RW σ 158 (ro σ r 0) α n O) ∨ (g_X3_findFinal (pI r) (pI g) M = some (pI 0, O) ∧ ∀ e', e' ≤ 30 → ¬ okE σ r (-1) 0 (ro σ r 0) g 1 e')) := by
  obtain ⟨N1, N, g1, f1, _, O, f2, e2, h⟩ := s_final (wo := -1) hW hO hr (by omega) hl hg
  refine ⟨O, fr_trans (fr_mono f1 (by simp)) (fr_mono f2 (by simp)), e2, ?_⟩
  rcases h with ⟨α, n, g2, h1, h2⟩ | ⟨g2, h1⟩
  · refine Or.inl ⟨α, n, ?_, h1, h2⟩
    unfold g_X3_findFinal
    rw [show (-1 : Int32) = pI (-1) from rfl, g1, am_b_some, show (1 : Int32) = pI 1 from rfl, g2, am_b_some]
    rfl
  · refine Or.inr ⟨?_, h1⟩
    unfold g_X3_findFinal
    rw [show (-1 : Int32) = pI (-1) from rfl, g1, am_b_some, show (1 : Int32) = pI 1 from rfl, g2, am_b_some]
    rfl
theorem s_hasFinalWithout {σ : Nat → Int} {r : Nat} {wo g : Int} {M : am_M} (hW : WD σ 1 M) (hO : OK σ) (hr : (r : Int) < σ 6) (hwo : -1 ≤ wo ∧ wo < 5) (hl : ro σ r 3 = 0) (hg : 0 ≤ g ∧ g < 40) : ∃ O, fr [158, 160, 162, 163, 164] M O ∧ ((g_X3_hasFinalWithout (pI wo) (pI r) (pI g) M = some (pI 1, O) ∧ ∃ e, e ≤ 30 ∧ okE σ r wo 0 (ro σ r 0) g 1 e) ∨ (g_X3_hasFinalWithout (pI wo) (pI r) (pI g) M = some (pI 0, O) ∧ ∀ e', e' ≤ 30 → ¬ okE σ r wo 0 (ro σ r 0) g 1 e')) := by
  obtain ⟨N1, N, g1, f1, ⟨x, g2, f2, h⟩, _⟩ := s_final hW hO hr hwo hl hg
  refine ⟨N, fr_trans (fr_mono f1 (by simp)) (fr_mono f2 (by simp)), ?_⟩
  have hx : -1 ≤ x ∧ x ≤ 30 := h.elim (fun q => by omega) (fun q => by omega)
  unfold g_X3_hasFinalWithout
  rw [g1, am_b_some, show (1 : Int32) = pI 1 from rfl, g2, am_b_some]
  simp (disch := (first | omega | exact (iv_rng _ _ _).1 | exact (iv_rng _ _ _).2)) only [pi_lit, pi_nat, pi_add, pi_sub, pi_mul, pi_neg, pi_le, pi_lt, pi_eq, pi_cn, pi_ci, pi_g, am_b_some, iv_s, iv_ls, lg_s, lg_ls, if_true, if_false, Int.reduceEq, Int.reduceLT, Int.reduceLE, Int.reduceToNat]
  rcases h with ⟨h1, h2⟩ | ⟨h1, h2⟩
  · rw [if_neg (by omega)]
    exact Or.inl ⟨rfl, h2⟩
  · rw [if_pos (by omega)]
    exact Or.inr ⟨rfl, h2⟩
end QI
