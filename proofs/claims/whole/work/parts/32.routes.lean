/-! the model's routes -/
section PN
theorem MS_fr2 {σ : Nat → Int} {wo : Int} {M N : am_M} (h : MS σ wo M) {X : List Nat} (hf : fr X M N) (h1 : 175 ∉ X) (h3 : 180 ∉ X) (h4 : 181 ∉ X) (h2 : iv N 174 11 = iv M 174 11) : MS σ wo N := by
  refine ⟨(sg_fr hf h1).trans h.1, h2.trans h.2.1, h.2.2.1, fun r t hr ht => ?_⟩
  rw [fr_i hf h3, fr_i hf h4]
  exact h.2.2.2 r t hr ht
/-- a time at which a route may end -/
def okE (σ : Nat → Int) (r wo : Int) (f : Nat) (c g fin : Int) (e : Nat) : Prop := RT σ r wo f c (30 - f) e g ∧ (fin ≠ 0 → ∀ k : Nat, e ≤ k → k ≤ 30 → fre σ r wo g k)
theorem s_routes10 {σ : Nat → Int} {r wo c g fin : Int} {f : Nat} {M : am_M} (h : MS σ wo M) (hr : 0 ≤ r ∧ r < 5) (hg : 0 ≤ g ∧ g < 40) (hf : f ≤ 30) (hfin : 0 ≤ fin ∧ fin ≤ 1) (hR : tb (RT σ r wo f c (30 - f)) M) : ∃ x, g_X10_routes_L10 (pI r) (pI c) (pI f) (pI g) (pI fin) am_fu (pI f) M = some x ∧ ((∃ e : Nat, x = (pI e, M) ∧ f ≤ e ∧ e ≤ 30 ∧ okE σ r wo f c g fin e ∧ ∀ e', f ≤ e' → e' < e → ¬ okE σ r wo f c g fin e') ∨ (x = (pI 31, M) ∧ ∀ e', f ≤ e' → e' ≤ 30 → ¬ okE σ r wo f c g fin e')) := by
  refine lo_for (fun m (s : Int32 × am_M) => g_X10_routes_L10 (pI r) (pI c) (pI f) (pI g) (pI fin) m s.1 s.2) (fun k s => f ≤ k ∧ s = (pI (k : Nat), M) ∧ ∀ e', f ≤ e' → e' < k → ¬ okE σ r wo f c g fin e') _ f 31 (pI f, M) ⟨Nat.le_refl _, rfl, fun e' h1 h2 => by omega⟩ (by omega) (by unfold am_fu; omega) ?_ ?_
  · rintro m k s hk ⟨hfk, rfl, hno⟩
    dsimp only
    have hv : iv M 182 (40 * (k : Int) + g).toNat = b01 (RT σ r wo f c (30 - f) k g) := by
      have h5 := hR k g.toNat (by omega) (by omega)
      rw [show 40 * k + g.toNat = (40 * (k : Int) + g).toNat by omega, show ((g.toNat : Nat) : Int) = g by omega] at h5
      exact h5
    have hnext : ¬ okE σ r wo f c g fin k → ∃ s' : Int32 × am_M, g_X10_routes_L10 (pI r) (pI c) (pI f) (pI g) (pI fin) m (pI (k + 1 : Nat)) M = g_X10_routes_L10 (pI r) (pI c) (pI f) (pI g) (pI fin) m s'.1 s'.2 ∧ f ≤ k + 1 ∧ s' = (pI (k + 1 : Nat), M) ∧ ∀ e', f ≤ e' → e' < k + 1 → ¬ okE σ r wo f c g fin e' := fun h1 => ⟨_, rfl, by omega, rfl, fun e' h2 h3 => by
      by_cases h4 : e' = k
      · subst h4; exact h1
      · exact hno e' h2 (by omega)⟩
    have hstop : okE σ r wo f c g fin k → ∃ x, some (pI (k : Nat), M) = some x ∧ ((∃ e : Nat, x = (pI e, M) ∧ f ≤ e ∧ e ≤ 30 ∧ okE σ r wo f c g fin e ∧ ∀ e', f ≤ e' → e' < e → ¬ okE σ r wo f c g fin e') ∨ (x = (pI 31, M) ∧ ∀ e', f ≤ e' → e' ≤ 30 → ¬ okE σ r wo f c g fin e')) := fun h1 => ⟨_, rfl, Or.inl ⟨k, rfl, hfk, by omega, h1, hno⟩⟩
    rw [g_X10_routes_L10]
    simp (disch := (first | omega | exact (iv_rng _ _ _).1 | exact (iv_rng _ _ _).2)) only [pi_lit, pi_nat, pi_add, pi_sub, pi_mul, pi_neg, pi_le, pi_lt, pi_eq, pi_cn, pi_ci, pi_g, am_b_some, iv_s, iv_ls, lg_s, lg_ls, if_true, if_false, Int.reduceEq, Int.reduceLT, Int.reduceLE, Int.reduceToNat]
    rw [if_neg (by omega), hv]
    by_cases h1 : RT σ r wo f c (30 - f) k g
    · rw [b01_t h1, if_neg (by omega)]
      by_cases h2 : fin = 0
      · rw [if_pos h2]
        right
        exact hstop ⟨h1, fun h3 => absurd h2 h3⟩
      · have e1 := s_canWait (f := k) (t := 30) h hr hg (by omega) (by omega)
        rw [if_neg h2]
        rw [show ((30 : Nat) : Int) = 30 from rfl] at e1
        rw [e1, am_b_some]
        by_cases h3 : ∀ q : Nat, k ≤ q → q ≤ 30 → fre σ r wo g q
        · rw [b01_t h3]
          right
          exact hstop ⟨h1, fun _ => h3⟩
        · rw [b01_f h3]
          left
          exact hnext (fun h4 => h3 (h4.2 h2))
    · rw [b01_f h1, if_pos rfl]
      left
      exact hnext (fun h2 => h1 h2.1)
  · rintro m s ⟨hfk, rfl, hno⟩
    refine ⟨(pI 31, M), ?_, Or.inr ⟨rfl, fun e' h1 h2 => hno e' h1 (by omega)⟩⟩
    dsimp only
    rw [g_X10_routes_L10]
    simp (disch := (first | omega | exact (iv_rng _ _ _).1 | exact (iv_rng _ _ _).2)) only [pi_lit, pi_nat, pi_add, pi_sub, pi_mul, pi_neg, pi_le, pi_lt, pi_eq, pi_cn, pi_ci, pi_g, am_b_some, iv_s, iv_ls, lg_s, lg_ls, if_true, if_false, Int.reduceEq, Int.reduceLT, Int.reduceLE, Int.reduceToNat]
    rw [if_pos (by omega)]
    rfl
theorem s_routes113 {σ : Nat → Int} {r wo : Int} {e t : Nat} {x : Int} {M : am_M} (h : MS σ wo M) (hwl : wl σ) (hr : 0 ≤ r ∧ r < 5) (hx : 0 ≤ x ∧ x < 40) (he : e ≤ 30) (ht : t < e) (C : Nat → Int → Int) (hC : tc C M) (hC0 : ∀ t x, 0 ≤ C t x ∧ C t x ≤ 1000000) (a : Nat) (ha : a < 7) (h1 : bst σ r wo e C t x a) (h2 : ∀ j : Nat, j < a → ¬ bst σ r wo e C t x j) : g_X10_routes_L113 (pI r) (pI e) (pI t) (pI x) am_fu (pI 0) M = some (pI a, M) := by
  obtain ⟨y, h3, rfl⟩ := lo_for (fun m (s : Int32 × am_M) => g_X10_routes_L113 (pI r) (pI e) (pI t) (pI x) m s.1 s.2) (fun k s => s = (pI (k : Nat), M)) (fun y => y = (pI a, M)) 0 a (pI 0, M) rfl (by omega) (by unfold am_fu; omega) (by
    rintro m k s hk rfl
    left
    refine ⟨(pI (k + 1 : Nat), M), ?_, rfl⟩
    dsimp only
    rw [g_X10_routes_L113, s_isBest (a := (k : Int)) h hwl hr hx (by omega) he ht C hC hC0, am_b_some, b01_f (h2 k hk)]
    simp (disch := (first | omega | exact (iv_rng _ _ _).1 | exact (iv_rng _ _ _).2)) only [pi_lit, pi_nat, pi_add, pi_sub, pi_mul, pi_neg, pi_le, pi_lt, pi_eq, pi_cn, pi_ci, pi_g, am_b_some, iv_s, iv_ls, lg_s, lg_ls, if_true, if_false, Int.reduceEq, Int.reduceLT, Int.reduceLE, Int.reduceToNat]
    rfl) (by
    rintro m s rfl
    refine ⟨_, ?_, rfl⟩
    dsimp only
    rw [g_X10_routes_L113, s_isBest (a := (a : Int)) h hwl hr hx (by omega) he ht C hC hC0, am_b_some, b01_t h1]
    simp (disch := (first | omega | exact (iv_rng _ _ _).1 | exact (iv_rng _ _ _).2)) only [pi_lit, pi_nat, pi_add, pi_sub, pi_mul, pi_neg, pi_le, pi_lt, pi_eq, pi_cn, pi_ci, pi_g, am_b_some, iv_s, iv_ls, lg_s, lg_ls, if_true, if_false, Int.reduceEq, Int.reduceLT, Int.reduceLE, Int.reduceToNat])
  exact h3
theorem s_routes103 {σ : Nat → Int} {r wo c g : Int} {f e m0 : Nat} {M : am_M} (h : MS σ wo M) (hwl : wl σ) (hr : 0 ≤ r ∧ r < 5) (hc : 0 ≤ c ∧ c < 40) (hfe : f ≤ e) (he : e ≤ 30) (C : Nat → Int → Int) (hCC : C = CO σ r wo (RT σ r wo f c (30 - f)) g e (e - f)) (hC : tc C M) (hst : C f c < 1000000) (hm : iv M 174 15 = m0) (hm0 : m0 ≤ f) : ∃ (N : am_M) (n : Nat), g_X10_routes_L103 (pI r) (pI e) am_fu (pI f) (pI c) M = some ((), N) ∧ fr [174, 184] M N ∧ (∀ k, k ≠ 15 → iv N 174 k = iv M 174 k) ∧ (ws σ r wo e C f c n).1 = e ∧ (∀ j, j < n → (ws σ r wo e C f c j).1 < e) ∧ iv N 174 15 = m0 + n ∧ n + f ≤ e ∧ (∀ j, j < m0 → iv N 184 j = iv M 184 j) ∧ (∀ j, j < n → iv N 184 (m0 + j) = wa σ r wo e C f c j) := by
  have hC0 : ∀ t x, 0 ≤ C t x ∧ C t x ≤ 1000000 := fun t x => by rw [hCC]; exact CO_rng _ _ _ _ _ _ _ _ _
  have key := lo_for (fun m (s : Int32 × Int32 × am_M) => g_X10_routes_L103 (pI r) (pI e) m s.1 s.2.1 s.2.2) (fun i s => s.1 = pI ((ws σ r wo e C f c i).1 : Nat) ∧ s.2.1 = pI (ws σ r wo e C f c i).2 ∧ i + f ≤ (ws σ r wo e C f c i).1 ∧ fr [174, 184] M s.2.2 ∧ (∀ k, k ≠ 15 → iv s.2.2 174 k = iv M 174 k) ∧ (∀ j, j < i → (ws σ r wo e C f c j).1 < e) ∧ iv s.2.2 174 15 = m0 + i ∧ (∀ j, j < m0 → iv s.2.2 184 j = iv M 184 j) ∧ (∀ j, j < i → iv s.2.2 184 (m0 + j) = wa σ r wo e C f c j)) (fun y => ∃ n : Nat, fr [174, 184] M y.2 ∧ (∀ k, k ≠ 15 → iv y.2 174 k = iv M 174 k) ∧ (ws σ r wo e C f c n).1 = e ∧ (∀ j, j < n → (ws σ r wo e C f c j).1 < e) ∧ iv y.2 174 15 = m0 + n ∧ n + f ≤ e ∧ (∀ j, j < m0 → iv y.2 184 j = iv M 184 j) ∧ (∀ j, j < n → iv y.2 184 (m0 + j) = wa σ r wo e C f c j)) 0 31 (pI f, pI c, M) ⟨rfl, rfl, by simp [ws], fr_refl _ _, fun _ _ => rfl, fun j hj => by omega, by simpa using hm, fun _ _ => rfl, fun j hj => by omega⟩ (by omega) (by unfold am_fu; omega) ?_ ?_
  · obtain ⟨y, h3, n, h4⟩ := key
    exact ⟨y.2, n, h3, h4⟩
  · rintro m i ⟨a7, a8, N⟩ hi ⟨e1, e2, hif, hf, h17, hlt, hmm, hold, hnew⟩
    dsimp only at e1 e2 hf h17 hmm hold hnew
    subst e1 e2
    have hinv := ws_inv (g := g) hwl hc hfe he (by rw [← hCC]; exact hst) i
    rw [← hCC] at hinv
    have hrg := RT_rng hwl hc hinv.1
    by_cases h1 : (ws σ r wo e C f c i).1 < e
    · left
      have hb := wa_best (g := g) hwl hc hfe he (by rw [← hCC]; exact hst) i (by rw [← hCC]; exact h1)
      rw [← hCC] at hb
      have hmN : MS σ wo N := MS_fr2 h hf (by decide) (by decide) (by decide) (h17 11 (by decide))
      have htN : tc C N := fun t x ht hx => by rw [fr_i hf (by decide)]; exact hC t x ht hx
      have e113 := s_routes113 hmN hwl hr hrg.2 he h1 C htN hC0 _ hb.1 hb.2.1 hb.2.2
      have hk := tk_pos (wa σ r wo e C f c i : Int)
      have hws : ws σ r wo e C f c (i + 1) = (((ws σ r wo e C f c i).1 + tk (wa σ r wo e C f c i)).toNat, mvs σ (ws σ r wo e C f c i).2 (wa σ r wo e C f c i)) := by
        rw [ws, if_pos h1]; rfl
      refine ⟨(pI ((ws σ r wo e C f c (i + 1)).1 : Nat), pI (ws σ r wo e C f c (i + 1)).2, am_s (am_s N 184 (m0 + i) (pI (wa σ r wo e C f c i))) 174 15 (pI ((m0 : Int) + i + 1))), ?_, rfl, rfl, ?_, fr_trans hf (fr_trans (fr_s (by simp)) (fr_s (by simp))), fun k hk2 => ?_, fun j hj => ?_, ?_, fun j hj => ?_, fun j hj => ?_⟩
      · dsimp only
        rw [g_X10_routes_L103]
        simp (disch := (first | omega | exact (iv_rng _ _ _).1 | exact (iv_rng _ _ _).2)) only [pi_lit, pi_nat, pi_add, pi_sub, pi_mul, pi_neg, pi_le, pi_lt, pi_eq, pi_cn, pi_ci, pi_g, am_b_some, iv_s, iv_ls, lg_s, lg_ls, if_true, if_false, Int.reduceEq, Int.reduceLT, Int.reduceLE, Int.reduceToNat, e113, hmm]
        rw [if_neg (by omega)]
        rw [if_neg (by omega : ¬ (174 = 184 ∧ 15 = ((m0 : Int) + i).toNat)), show ((m0 : Int) + i).toNat = m0 + i by omega]
        have q2 : sg (am_s (am_s N 184 (m0 + i) (pI (wa σ r wo e C f c i))) 174 15 (pI ((m0 : Int) + i + 1))) = σ := by
          rw [sg_s (by decide), sg_s (by decide), hmN.1]
        rw [s_mmoved _ hrg.2.1 hrg.2.2 (by omega) (by omega), am_b_some, s_takes _ (by omega) (by omega), am_b_some, q2, hws, pi_add]
        dsimp only
        rw [show ((((ws σ r wo e C f c i).1 : Int) + tk (wa σ r wo e C f c i)).toNat : Int) = ((ws σ r wo e C f c i).1 : Int) + tk (wa σ r wo e C f c i) by omega]
      · rw [hws]; dsimp only; omega
      · dsimp only
        rw [iv_s (by omega) (by omega), if_neg (by omega), iv_s (by omega) (by omega), if_neg (by omega)]
        exact h17 k hk2
      · by_cases h5 : j = i
        · subst h5; exact h1
        · exact hlt j (by omega)
      · dsimp only
        rw [iv_s (by omega) (by omega), if_pos ⟨rfl, rfl⟩]
        push_cast; omega
      · dsimp only
        rw [iv_s (by omega) (by omega), if_neg (by omega), iv_s (by omega) (by omega), if_neg (by omega)]
        exact hold j hj
      · dsimp only
        rw [iv_s (by omega) (by omega), if_neg (by omega), iv_s (by omega) (by omega)]
        by_cases h5 : j = i
        · rw [if_pos (by omega), h5]
        · rw [if_neg (by omega)]
          exact hnew j (by omega)
    · right
      refine ⟨((), N), ?_, i, hf, h17, by omega, hlt, hmm, by omega, hold, hnew⟩
      dsimp only
      rw [g_X10_routes_L103]
      simp (disch := (first | omega | exact (iv_rng _ _ _).1 | exact (iv_rng _ _ _).2)) only [pi_lit, pi_nat, pi_add, pi_sub, pi_mul, pi_neg, pi_le, pi_lt, pi_eq, pi_cn, pi_ci, pi_g, am_b_some, iv_s, iv_ls, lg_s, lg_ls, if_true, if_false, Int.reduceEq, Int.reduceLT, Int.reduceLE, Int.reduceToNat]
      rw [if_pos (by omega)]
  · rintro m ⟨a7, a8, N⟩ ⟨e1, e2, hif, hf, h17, hlt, hmm, hold, hnew⟩
    exfalso
    have hinv := ws_inv (g := g) hwl hc hfe he (by rw [← hCC]; exact hst) 31
    rw [← hCC] at hinv
    omega
end PN
