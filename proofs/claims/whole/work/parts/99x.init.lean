/-! the start -/
section SU
theorem dk_put {t n : Nat} {a v : Int32} {M N : am_M} {u : Unit} (h : g_X9_put t n a v M = some (u, N)) : N.2.2 = M.2.2 := by
  unfold g_X9_put at h
  split at h
  · cases h; rfl
  · split at h
    · cases h; rfl
    · unfold am_ci at h
      split at h
      · cases h; rfl
      · cases h
theorem dk_fill {t n : Nat} {v : Int32} : ∀ (m : Nat) (a : Int32) (M N : am_M) (u : Unit), g_X9_fill_L2 t n v m a M = some (u, N) → N.2.2 = M.2.2
  | 0, a, M, N, u, h => by cases h
  | m + 1, a, M, N, u, h => by
    rw [g_X9_fill_L2] at h
    split at h
    · cases h; rfl
    · unfold am_ci at h
      split at h
      · exact (dk_fill m _ _ N u h).trans rfl
      · cases h
theorem dk_neighbor {c a : Int32} {M N : am_M} {v : Int32} (h : g_X9_neighbor c a M = some (v, N)) : N = M := by
  unfold g_X9_neighbor at h
  repeat' split at h
  all_goals (cases h; rfl)
theorem dk_L31 {t : Nat} {c : Int32} : ∀ (m : Nat) (a : Int32) (M N : am_M) (u : Unit), g_X1_empty_L31 t c m a M = some (u, N) → N.2.2 = M.2.2
  | 0, a, M, N, u, h => by cases h
  | m + 1, a, M, N, u, h => by
    rw [g_X1_empty_L31] at h
    split at h
    · cases h; rfl
    · split at h
      · obtain ⟨v, M2, h1, h2⟩ := am_bE h
        exact (dk_L31 m _ _ N u h2).trans (dk_put h1)
      · obtain ⟨v, M2, h1, h2⟩ := am_bE h
        obtain ⟨w, M3, h3, h4⟩ := am_bE h2
        have e := dk_neighbor h1
        subst e
        exact (dk_L31 m _ _ N u h4).trans (dk_put h3)
theorem dk_L23 {t : Nat} : ∀ (m : Nat) (a : Int32) (M N : am_M) (u : Unit), g_X1_empty_L23 t m a M = some (u, N) → N.2.2 = M.2.2
  | 0, a, M, N, u, h => by cases h
  | m + 1, a, M, N, u, h => by
    rw [g_X1_empty_L23] at h
    split at h
    · cases h; rfl
    · obtain ⟨v, M2, h1, h2⟩ := am_bE h
      exact (dk_L23 m _ _ N u h2).trans (dk_L31 _ _ _ _ _ h1)
theorem dk_empty {t : Nat} {M N : am_M} {u : Unit} (h : g_X1_empty t M = some (u, N)) : N.2.2 = M.2.2 := by
  unfold g_X1_empty at h
  obtain ⟨v, M2, h1, h2⟩ := am_bE h
  obtain ⟨w, M3, h3, h4⟩ := am_bE h2
  obtain ⟨x, M4, h5, h6⟩ := am_bE h4
  unfold g_X9_fill at h1 h3
  obtain ⟨y, K5, h7, h8⟩ := am_bE h1
  obtain ⟨z, K6, h9, h10⟩ := am_bE h3
  have e6 : M4 = N := congrArg Prod.snd (Option.some.inj h6)
  have e8 : K5 = M2 := congrArg Prod.snd (Option.some.inj h8)
  have e10 : K6 = M3 := congrArg Prod.snd (Option.some.inj h10)
  have q1 := dk_L23 _ _ _ _ _ h5
  have q2 := dk_fill _ _ _ _ _ h9
  have q3 := dk_fill _ _ _ _ _ h7
  rw [e6] at q1
  rw [e10] at q2
  rw [e8] at q3
  exact q1.trans (q2.trans q3)
theorem am_start : ∃ M1 M2 M3 : am_M, g_X1_empty 2 am_Z = some ((), M1) ∧ aq_fr M1 (fun _ => []) 7 ∧ g_X1_empty 54 M1 = some ((), M2) ∧ aq_fr M2 (fun _ => []) 59 ∧ g_X1_empty 106 M2 = some ((), M3) ∧ aq_fr M3 (fun _ => []) 111 ∧ INV (am_init M3) := by
  obtain ⟨M1, g1, f1, a1, b1, c1, d1⟩ := s_empty (t := 2) am_Z (by omega)
  obtain ⟨M2, g2, f2, a2, b2, c2, d2⟩ := s_empty (t := 54) M1 (by omega)
  obtain ⟨M3, g3, f3, a3, b3, c3, d3⟩ := s_empty (t := 106) M2 (by omega)
  have z0 : ∀ a k, iv am_Z a k = 0 := fun a k => rfl
  have zl : ∀ a k, am_lg am_Z a k = 0 := fun a k => rfl
  have n1 : ∀ a, ¬ (2 ≤ a ∧ a < 6) → a ∉ [2, 2 + 1, 2 + 2, 2 + 3] := fun a h => by simp; omega
  have n2 : ∀ a, ¬ (54 ≤ a ∧ a < 58) → a ∉ [54, 54 + 1, 54 + 2, 54 + 3] := fun a h => by simp; omega
  have n3 : ∀ a, ¬ (106 ≤ a ∧ a < 110) → a ∉ [106, 106 + 1, 106 + 2, 106 + 3] := fun a h => by simp; omega
  have e1 : M1.2.2 = am_Z.2.2 := dk_empty g1
  have e2 : M2.2.2 = am_Z.2.2 := (dk_empty g2).trans e1
  have e3 : M3.2.2 = am_Z.2.2 := (dk_empty g3).trans e2
  have x1 : ∀ a, ¬ (2 ≤ a ∧ a < 6) → ∀ k, iv M1 a k = 0 := fun a h k => (fr_i f1 (n1 a h) k).trans (z0 a k)
  have y1 : ∀ a, ¬ (2 ≤ a ∧ a < 6) → ∀ k, am_lg M1 a k = 0 := fun a h k => (fr_l f1 (n1 a h) k).trans (zl a k)
  have x2 : ∀ a, ¬ (2 ≤ a ∧ a < 6) → ¬ (54 ≤ a ∧ a < 58) → ∀ k, iv M2 a k = 0 := fun a h h' k => (fr_i f2 (n2 a h') k).trans (x1 a h k)
  have y2 : ∀ a, ¬ (2 ≤ a ∧ a < 6) → ¬ (54 ≤ a ∧ a < 58) → ∀ k, am_lg M2 a k = 0 := fun a h h' k => (fr_l f2 (n2 a h') k).trans (y1 a h k)
  have x3 : ∀ a, ¬ (2 ≤ a ∧ a < 6) → ¬ (54 ≤ a ∧ a < 58) → ¬ (106 ≤ a ∧ a < 110) → ∀ k, iv M3 a k = 0 := fun a h h' h'' k => (fr_i f3 (n3 a h'') k).trans (x2 a h h' k)
  have y3 : ∀ a, ¬ (2 ≤ a ∧ a < 6) → ¬ (54 ≤ a ∧ a < 58) → ¬ (106 ≤ a ∧ a < 110) → ∀ k, am_lg M3 a k = 0 := fun a h h' h'' k => (fr_l f3 (n3 a h'') k).trans (y2 a h h' k)
  have gz : ∀ (M : am_M) (a k : Nat), iv M a k = 0 → am_g M a k = 0 := fun M a k h => by rw [pi_g, h]; rfl
  have fi : fr [0, 174, 178] M3 (am_init M3) := by
    unfold am_init
    repeat (first | exact fr_refl _ _ | refine fr_trans ?_ (fr_s (by decide)))
  have hs : ∀ k : Nat, k < 406 → sg (am_init M3) k = 0 := fun k _ => (fr_i fi (by decide) k).trans (x3 175 (by omega) (by omega) (by omega) k)
  have w1 : ∀ a, a < 54 → 2 ≤ a → ∀ k, iv M3 a k = iv M1 a k := fun a h h' k => (fr_i f3 (n3 a (by omega)) k).trans (fr_i f2 (n2 a (by omega)) k)
  have wi : ∀ a, a ≠ 0 → a ≠ 174 → a ≠ 178 → ∀ k, iv (am_init M3) a k = iv M3 a k := fun a h h' h'' k => fr_i fi (by simp; omega) k
  refine ⟨M1, M2, M3, g1, ?_, g2, ?_, g3, ?_, OK_zero hs, ?_, ?_, ?_, ?_, ?_, ?_⟩
  · intro a ha
    exact ⟨rfl, fun j => gz _ _ _ (x1 a (by omega) j), fun j => y1 a (by omega) j, fun j => by show M1.2.2 a j = 0; rw [e1]; rfl⟩
  · intro a ha
    exact ⟨rfl, fun j => gz _ _ _ (x2 a (by omega) (by omega) j), fun j => y2 a (by omega) (by omega) j, fun j => by show M2.2.2 a j = 0; rw [e2]; rfl⟩
  · intro a ha
    exact ⟨rfl, fun j => gz _ _ _ (x3 a (by omega) (by omega) (by omega) j), fun j => y3 a (by omega) (by omega) (by omega) j, fun j => by show M3.2.2 a j = 0; rw [e3]; rfl⟩
  · refine WD_zero hs ?_ (fun c hc => ?_) (fun c a hc ha => ?_) (fun c hc => ?_) ?_ ?_ ?_
    · rw [wi 2 (by omega) (by omega) (by omega), w1 2 (by omega) (by omega)]; exact a1
    · rw [wi 3 (by omega) (by omega) (by omega), w1 3 (by omega) (by omega)]; exact c1 c hc
    · rw [wi 4 (by omega) (by omega) (by omega), w1 4 (by omega) (by omega)]; exact d1 c a hc ha
    · rw [wi 7 (by omega) (by omega) (by omega)]; exact x3 7 (by omega) (by omega) (by omega) c
    · rw [wi 1 (by omega) (by omega) (by omega)]; exact x3 1 (by omega) (by omega) (by omega) 2
    · rw [wi 1 (by omega) (by omega) (by omega)]; exact x3 1 (by omega) (by omega) (by omega) 3
    · rw [wi 1 (by omega) (by omega) (by omega)]; exact x3 1 (by omega) (by omega) (by omega) 4
  · rfl
  · exact Or.inl ⟨rfl, x3 174 (by omega) (by omega) (by omega) 4⟩
  · intro q hq
    refine Or.inl ⟨(wi 167 (by omega) (by omega) (by omega) q).trans (x3 167 (by omega) (by omega) (by omega) q), ?_⟩
    rcases (show q = 0 ∨ q = 1 ∨ q = 2 ∨ q = 3 ∨ q = 4 ∨ q = 5 by omega) with rfl | rfl | rfl | rfl | rfl | rfl <;> rfl
  · have h7 : iv (am_init M3) 174 7 = 0 := x3 174 (by omega) (by omega) (by omega) 7
    refine ⟨?_, by rw [h7]; omega, fun k hk => by rw [h7] at hk; omega⟩
    rw [h7, wi 169 (by omega) (by omega) (by omega)]
    exact x3 169 (by omega) (by omega) (by omega) 0
  · exact ⟨rfl, show -1 ≤ (-1 : Int) by omega⟩
theorem am_pure (L : Nat) (xs : Nat → Int32) (hL : L ≤ 2560) : ∃ M1 M2 M3 M9 : am_M, g_X1_empty 2 am_Z = some ((), M1) ∧ aq_fr M1 (fun _ => []) 7 ∧ g_X1_empty 54 M1 = some ((), M2) ∧ aq_fr M2 (fun _ => []) 59 ∧ g_X1_empty 106 M2 = some ((), M3) ∧ aq_fr M3 (fun _ => []) 111 ∧ g_L_law_L28 xs L 600 0 (am_init M3) = some ((), M9) := by
  obtain ⟨M1, M2, M3, h1, h2, h3, h4, h5, h6, h7⟩ := am_start
  obtain ⟨M9, h8⟩ := law_loop hL (xs := xs) 513 0 600 (am_init M3) (by omega) (by omega) h7
  have h9 : g_L_law_L28 xs L 600 0 (am_init M3) = some ((), M9) := h8
  exact ⟨M1, M2, M3, M9, h1, h2, h3, h4, h5, h6, h9⟩
end SU
