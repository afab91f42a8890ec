/-! the model's routes, all of it -/
section PM
/-- what a route that was found is: its end, its steps -/
def rout (σ : Nat → Int) (r wo : Int) (f : Nat) (c g fin : Int) (e n : Nat) (C : Nat → Int → Int) : Prop := (f ≤ e ∧ e ≤ 30 ∧ okE σ r wo f c g fin e ∧ ∀ e', f ≤ e' → e' < e → ¬ okE σ r wo f c g fin e') ∧ C = CO σ r wo (RT σ r wo f c (30 - f)) g e (e - f) ∧ 0 ≤ C f c ∧ C f c ≤ 2 * ((e : Int) - f) ∧ (ws σ r wo e C f c n).1 = e ∧ (∀ j, j < n → (ws σ r wo e C f c j).1 < e) ∧ n + f ≤ e
theorem s_routes {σ : Nat → Int} {r wo c g fin : Int} {f m0 : Nat} {q : Int} {M : am_M} (h : MS σ wo M) (hwl : wl σ) (hr : 0 ≤ r ∧ r < 5) (hc : 0 ≤ c ∧ c < 40) (hg : 0 ≤ g ∧ g < 40) (hf : f ≤ 30) (hfin : 0 ≤ fin ∧ fin ≤ 1) (hm : iv M 174 15 = m0) (hm0 : m0 ≤ f) (hq : iv M 174 17 = q) (hq2 : 0 ≤ q ∧ q ≤ 1000) : ∃ N, fr [174, 182, 183, 184] M N ∧ (∀ k, k ≠ 15 → k ≠ 16 → k ≠ 17 → iv N 174 k = iv M 174 k) ∧ (∀ j, j < m0 → iv N 184 j = iv M 184 j) ∧ ((∃ (e n : Nat) (C : Nat → Int → Int), g_X10_routes (pI r) (pI c) (pI f) (pI g) (pI fin) M = some (pI 1, N) ∧ rout σ r wo f c g fin e n C ∧ iv N 174 15 = m0 + n ∧ iv N 174 16 = e ∧ iv N 174 17 = q + C f c ∧ ∀ j, j < n → iv N 184 (m0 + j) = wa σ r wo e C f c j) ∨ (g_X10_routes (pI r) (pI c) (pI f) (pI g) (pI fin) M = some (pI 0, N) ∧ ∀ e', f ≤ e' → e' ≤ 30 → ¬ okE σ r wo f c g fin e')) := by
  obtain ⟨N1, g1, f1, t1⟩ := s_reaches h hwl hr hc hf
  have h1 := MS_fr h f1 (by decide) (by decide) (by decide) (by decide)
  obtain ⟨x, g2, hx⟩ := s_routes10 h1 hr hg hf hfin t1
  have hstart : g_X10_routes (pI r) (pI c) (pI f) (pI g) (pI fin) M = g_X10_routes_J58 (pI r) (pI c) (pI f) (pI g) x.1 x.2 := by
    unfold g_X10_routes
    rw [g1, am_b_some, g2]
    rfl
  rcases hx with ⟨e, rfl, hfe, he, hok, hleast⟩ | ⟨rfl, hno⟩
  · obtain ⟨N2, g3, f2, t2⟩ := s_costsBack (g := g) (f := f) (e := e) h1 hwl hr hg he hfe _ t1
    have h2 := MS_fr h1 f2 (by decide) (by decide) (by decide) (by decide)
    obtain ⟨C, hC⟩ : ∃ C, C = CO σ r wo (RT σ r wo f c (30 - f)) g e (e - f) := ⟨_, rfl⟩
    have hfin2 : C f c ≤ 2 * ((e : Int) - f) := by
      rw [hC]
      refine CO_fin hwl hc hfe he hok.1 (Nat.le_refl _) (Nat.le_refl _) ?_
      rw [CO_end, if_pos rfl]
      omega
    have hge : 0 ≤ C f c := by rw [hC]; exact (CO_rng _ _ _ _ _ _ _ _ _).1
    rw [← hC] at t2
    have hN3f : fr [174, 182, 183, 184] M (am_s N2 174 17 (pI (q + C f c))) := fr_trans (fr_mono f1 (by simp)) (fr_trans (fr_mono f2 (by simp)) (fr_s (by simp)))
    have h17 : ∀ k, k ≠ 17 → iv (am_s N2 174 17 (pI (q + C f c))) 174 k = iv M 174 k := fun k hk => by
      rw [iv_s (by omega) (by omega), if_neg (by omega), fr_i f2 (by decide), fr_i f1 (by decide)]
    have h3 : MS σ wo (am_s N2 174 17 (pI (q + C f c))) := MS_fr2 h hN3f (by decide) (by decide) (by decide) (h17 11 (by decide))
    have t3 : tc C (am_s N2 174 17 (pI (q + C f c))) := fun t x ht hx => by
      rw [iv_s (by omega) (by omega), if_neg (by omega)]
      exact t2 t x ht hx
    obtain ⟨N4, n, g4, f4, k4, w1, w2, w3, w4, w5, w6⟩ := s_routes103 (g := g) h3 hwl hr hc hfe he C hC t3 (by omega) ((h17 15 (by decide)).trans hm) hm0
    have hcell : iv N2 183 (40 * (f : Int) + c).toNat = C f c := by
      have h5 := t2 f c.toNat hf (by omega)
      rw [show 40 * f + c.toNat = (40 * (f : Int) + c).toNat by omega, show ((c.toNat : Nat) : Int) = c by omega] at h5
      exact h5
    have h17' : iv N2 174 17 = q := by rw [fr_i f2 (by decide), fr_i f1 (by decide), hq]
    refine ⟨am_s N4 174 16 (pI e), ?_, fun k k1 k2 k3 => ?_, fun j hj => ?_, Or.inl ⟨e, n, C, ?_, ⟨⟨hfe, he, hok, hleast⟩, hC, hge, hfin2, w1, w2, w4⟩, ?_, ?_, ?_, fun j hj => ?_⟩⟩
    · exact fr_trans hN3f (fr_trans (fr_mono f4 (by simp)) (fr_s (by simp)))
    · rw [iv_s (by omega) (by omega), if_neg (by omega), k4 k k1, h17 k k3]
    · rw [iv_s (by omega) (by omega), if_neg (by omega), w5 j hj, iv_s (by omega) (by omega), if_neg (by omega), fr_i f2 (by decide), fr_i f1 (by decide)]
    · rw [hstart]
      unfold g_X10_routes_J58
      dsimp only
      simp (disch := (first | omega | exact (iv_rng _ _ _).1 | exact (iv_rng _ _ _).2)) only [pi_lit, pi_nat, pi_add, pi_sub, pi_mul, pi_neg, pi_le, pi_lt, pi_eq, pi_cn, pi_ci, pi_g, am_b_some, iv_s, iv_ls, lg_s, lg_ls, if_true, if_false, Int.reduceEq, Int.reduceLT, Int.reduceLE, Int.reduceToNat, g3, hcell, h17', g4]
      rw [if_pos (by omega)]
    · rw [iv_s (by omega) (by omega), if_neg (by omega), w3]
    · rw [iv_s (by omega) (by omega), if_pos ⟨rfl, rfl⟩]
    · rw [iv_s (by omega) (by omega), if_neg (by omega), k4 17 (by decide), iv_s (by omega) (by omega), if_pos ⟨rfl, rfl⟩]
    · rw [iv_s (by omega) (by omega), if_neg (by omega), w6 j hj]
  · refine ⟨N1, fr_mono f1 (by simp), fun k _ _ _ => fr_i f1 (by decide) k, fun j _ => fr_i f1 (by decide) j, Or.inr ⟨?_, hno⟩⟩
    rw [hstart]
    unfold g_X10_routes_J58
    dsimp only
    simp (disch := (first | omega | exact (iv_rng _ _ _).1 | exact (iv_rng _ _ _).2)) only [pi_lit, pi_nat, pi_add, pi_sub, pi_mul, pi_neg, pi_le, pi_lt, pi_eq, pi_cn, pi_ci, pi_g, am_b_some, iv_s, iv_ls, lg_s, lg_ls, if_true, if_false, Int.reduceEq, Int.reduceLT, Int.reduceLE, Int.reduceToNat]
/-- at the start of a call, all is foreseen and the route is empty -/
theorem s_hasRoute {σ : Nat → Int} {r wo g : Int} {M : am_M} (hs : sg M = σ) (hw : iv M 174 11 = wo) (h6 : 0 ≤ σ 6 ∧ σ 6 ≤ 5) (hwr : ∀ k : Nat, k < σ 6 → wr σ k) (hwl : wl σ) (hr : 0 ≤ r ∧ r < σ 6) (hg : 0 ≤ g ∧ g < 40) : ∃ N, fr [174, 180, 181, 182, 183, 184] M N ∧ MS σ wo N ∧ (∀ k, k ≠ 15 → k ≠ 16 → k ≠ 17 → iv N 174 k = iv M 174 k) ∧ ((∃ (e n : Nat) (C : Nat → Int → Int), g_X10_hasRoute (pI r) (pI g) M = some (pI 1, N) ∧ rout σ r wo 0 (ro σ r 0) g 1 e n C ∧ iv N 174 15 = n ∧ iv N 174 16 = e ∧ iv N 174 17 = C 0 (ro σ r 0) ∧ ∀ j, j < n → iv N 184 j = wa σ r wo e C 0 (ro σ r 0) j) ∨ (g_X10_hasRoute (pI r) (pI g) M = some (pI 0, N) ∧ ∀ e', e' ≤ 30 → ¬ okE σ r wo 0 (ro σ r 0) g 1 e')) := by
  obtain ⟨N1, g1, f1, p1⟩ := s_allForeseen M (by rw [hs]; exact h6.1) (by rw [hs]; exact h6.2) (by rw [hs]; exact hwr)
  rw [hs] at p1
  obtain ⟨N2, hN2⟩ : ∃ N2, N2 = am_s (am_s (am_s N1 174 15 (pI 0)) 174 16 (pI 0)) 174 17 (pI 0) := ⟨_, rfl⟩
  have f2 : fr [174] N1 N2 := by
    rw [hN2]
    exact fr_trans (fr_s (by simp)) (fr_trans (fr_s (by simp)) (fr_s (by simp)))
  have k2 : ∀ k, k ≠ 15 → k ≠ 16 → k ≠ 17 → iv N2 174 k = iv M 174 k := fun k a1 a2 a3 => by
    rw [hN2, iv_s (by omega) (by omega), if_neg (by omega), iv_s (by omega) (by omega), if_neg (by omega), iv_s (by omega) (by omega), if_neg (by omega), fr_i f1 (by decide)]
  have h2 : MS σ wo N2 := ⟨by rw [sg_fr f2 (by decide), sg_fr f1 (by decide), hs], by rw [k2 11 (by decide) (by decide) (by decide), hw], h6, fun a t ha ht => by
    rw [fr_i f2 (by decide), fr_i f2 (by decide)]
    exact p1 a t ha ht⟩
  have hwr0 := hwr r.toNat (by omega)
  rw [show ((r.toNat : Nat) : Int) = r by omega] at hwr0
  have hc := hwr0.2.2.1 0 (by have := hwr0.1; omega)
  have hc2 : 0 ≤ ro σ r 0 ∧ ro σ r 0 < 40 := hc
  have e15 : iv N2 174 15 = ((0 : Nat) : Int) := by
    rw [hN2, iv_s (by omega) (by omega), if_neg (by omega), iv_s (by omega) (by omega), if_neg (by omega), iv_s (by omega) (by omega), if_pos ⟨rfl, rfl⟩]
    rfl
  have e17 : iv N2 174 17 = 0 := by
    rw [hN2, iv_s (by omega) (by omega), if_pos ⟨rfl, rfl⟩]
  obtain ⟨N, f3, k3, -, res⟩ := s_routes (r := r) (c := ro σ r 0) (g := g) (fin := 1) (f := 0) h2 hwl (by omega) hc2 hg (by omega) (by omega) e15 (Nat.le_refl _) e17 (by omega)
  have fall : fr [174, 180, 181, 182, 183, 184] M N := fr_trans (fr_mono f1 (by simp)) (fr_trans (fr_mono f2 (by simp)) (fr_mono f3 (by simp)))
  have kall : ∀ k, k ≠ 15 → k ≠ 16 → k ≠ 17 → iv N 174 k = iv M 174 k := fun k a1 a2 a3 => (k3 k a1 a2 a3).trans (k2 k a1 a2 a3)
  have hMS : MS σ wo N := MS_fr2 h2 f3 (by decide) (by decide) (by decide) (k3 11 (by decide) (by decide) (by decide))
  have hrun : ∀ v, g_X10_routes (pI r) (pI (ro σ r 0)) (pI 0) (pI g) (pI 1) N2 = some (pI v, N) → (v = 0 ∨ v = 1) → g_X10_hasRoute (pI r) (pI g) M = some (pI v, N) := fun v hv hv2 => by
    unfold g_X10_hasRoute g_X10_begins
    rw [g1, am_b_some, am_b_some]
    simp only [pi_lit]
    rw [← hN2, s_of (r := r) (w := 0) N2 (by omega) (by omega), am_b_some, h2.1, hv, am_b_some]
    apply am_c_true
    rcases hv2 with rfl | rfl
    · left; rfl
    · right; rfl
  refine ⟨N, fall, hMS, kall, ?_⟩
  rcases res with ⟨e, n, C, r1, r2, r3, r4, r5, r6⟩ | ⟨r1, r2⟩
  · left
    refine ⟨e, n, C, hrun 1 r1 (Or.inr rfl), r2, by rw [r3]; simp, r4, by rw [r5]; omega, fun j hj => ?_⟩
    have := r6 j hj
    rw [Nat.zero_add] at this
    exact this
  · right
    exact ⟨hrun 0 r1 (Or.inl rfl), fun e' he' => r2 e' (by omega) he'⟩
end PM
