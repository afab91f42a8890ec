/-! ticks between cells: the model -/
section SC
theorem s_relaxes {σ : Nat → Int} {c : Nat} {n : Int} {P : am_M} (hs : sg P = σ) (hwl : wl σ) (hc : c < 40) (hb : ∀ x, x < 40 → 0 ≤ iv P 185 x ∧ iv P 185 x ≤ 1000000) (hn : iv P 185 c = n) : ∃ N : am_M, g_X10_relaxes (pI c) P = some ((), N) ∧ fr [185] P N ∧ (∀ x, x < 40 → iv P 185 x ≤ n → iv N 185 x = iv P 185 x) ∧ (∀ x, x < 40 → n < iv P 185 x → n < iv N 185 x ∧ iv N 185 x ≤ iv P 185 x) ∧ (∀ x, x < 40 → iv N 185 x = iv P 185 x ∨ ∃ a, eg σ c a x ∧ iv N 185 x = n + tk a) ∧ (∀ a b, eg σ c a b → iv N 185 b ≤ n + tk a) := by
  have hbc := hb c hc
  rw [hn] at hbc
  obtain ⟨⟨u, N⟩, g1, f1, p1, p2, p3, p4⟩ := lo_for (fun m (s : Int32 × am_M) => g_X10_relaxes_L2 (pI c) m s.1 s.2) (fun q s => s.1 = pI (q : Nat) ∧ 1 ≤ q ∧ fr [185] P s.2 ∧ (∀ x, x < 40 → iv P 185 x ≤ n → iv s.2 185 x = iv P 185 x) ∧ (∀ x, x < 40 → n < iv P 185 x → n < iv s.2 185 x ∧ iv s.2 185 x ≤ iv P 185 x) ∧ (∀ x, x < 40 → iv s.2 185 x = iv P 185 x ∨ ∃ a, eg σ c a x ∧ iv s.2 185 x = n + tk a) ∧ (∀ a b, a < q → eg σ c a b → iv s.2 185 b ≤ n + tk a)) (fun s => fr [185] P s.2 ∧ (∀ x, x < 40 → iv P 185 x ≤ n → iv s.2 185 x = iv P 185 x) ∧ (∀ x, x < 40 → n < iv P 185 x → n < iv s.2 185 x ∧ iv s.2 185 x ≤ iv P 185 x) ∧ (∀ x, x < 40 → iv s.2 185 x = iv P 185 x ∨ ∃ a, eg σ c a x ∧ iv s.2 185 x = n + tk a) ∧ (∀ a b, eg σ c a b → iv s.2 185 b ≤ n + tk a)) 1 7 (pI 1, P) ⟨rfl, Nat.le_refl _, fr_refl _ _, fun x hx h => rfl, fun x hx h => ⟨h, Int.le_refl _⟩, fun x hx => Or.inl rfl, fun a b ha he => by have := he.1.2.1; omega⟩ (by omega) (by unfold am_fu; omega) (by
    rintro m q ⟨ap, N⟩ hq ⟨e1, hq1, hf, p1, p2, p3, p4⟩
    dsimp only at e1 hf p1 p2 p3 p4
    subst e1
    left
    have hsN : sg N = σ := (sg_fr hf (by decide)).trans hs
    have hmr := mvs_rng hwl (c := (c : Int)) (a := (q : Int)) (by omega) (by omega)
    have htk := tk_pos q
    have k1 : g_X10_moved (pI c) (pI (q : Nat)) N = some (pI (mvs σ c q), N) := by
      rw [s_mmoved N (by omega) (by omega) (by omega) (by omega), hsN]
    have k3 : g_X10_takes (pI (q : Nat)) N = some (pI (tk q), N) := s_takes N (by omega) (by omega)
    have nx : pI (q : Nat) + (1 : Int32) = pI (q + 1 : Nat) := by rw [show (1 : Int32) = pI 1 from rfl, pi_add]; rfl
    dsimp only
    rw [g_X10_relaxes_L2, if_neg (show ¬ ((7 : Int32) ≤ pI (q : Nat)) by rw [show (7 : Int32) = pI 7 from rfl, pi_le (by omega) (by omega) (by omega) (by omega)]; omega), k1, am_b_some, nx]
    have stay : (∀ b, eg σ c q b → iv N 185 b ≤ n + tk q) → ∀ a b, a < q + 1 → eg σ c a b → iv N 185 b ≤ n + tk a := fun hz a b ha he => by
      by_cases e : a = q
      · subst e; exact hz b he
      · exact p4 a b (by omega) he
    by_cases c1 : mvs σ c q = -1
    · rw [if_pos (show pI (mvs σ c q) = (-1 : Int32) by rw [c1]; rfl)]
      exact ⟨(pI (q + 1 : Nat), N), rfl, rfl, by omega, hf, p1, p2, p3, stay (fun b he => by have := he.2.1; omega)⟩
    · rw [if_neg (show ¬ (pI (mvs σ c q) = (-1 : Int32)) by rw [show (-1 : Int32) = pI (-1) from rfl, pi_eq (by omega) (by omega) (by omega) (by omega)]; exact c1)]
      obtain ⟨b, eb⟩ : ∃ b : Nat, mvs σ c q = b := ⟨(mvs σ c q).toNat, by omega⟩
      rw [eb] at hmr ⊢
      have k4 := s_misWall (c := (b : Int)) N (by omega) (by omega)
      rw [hsN, show (8 + (b : Int)).toNat = 8 + b by omega] at k4
      by_cases c2 : σ (8 + b) = 1
      · rw [if_pos c2] at k4
        rw [k4, am_b_some, if_neg ci1]
        exact ⟨(pI (q + 1 : Nat), N), rfl, rfl, by omega, hf, p1, p2, p3, stay (fun b' he => by
          have h1 := he.2.1
          rw [eb] at h1
          have h2 : b = b' := by omega
          subst h2
          exact absurd c2 he.2.2)⟩
      · rw [if_neg c2] at k4
        have hcn : iv N 185 c = n := by rw [p1 c hc (by omega)]; exact hn
        have hbN : 0 ≤ iv N 185 b ∧ iv N 185 b ≤ 1000000 := by
          have h1 := hb b (by omega)
          by_cases e : iv P 185 b ≤ n
          · rw [p1 b (by omega) e]; exact h1
          · have := p2 b (by omega) (by omega)
            omega
        have c5 : am_g N 185 (pI (c : Nat)).toNatClampNeg = pI n := by rw [pi_cn (by omega) (by omega), Int.toNat_natCast, pi_g, hcn]
        have c6 : am_g N 185 (pI (b : Nat)).toNatClampNeg = pI (iv N 185 b) := by rw [pi_cn (by omega) (by omega), Int.toNat_natCast, pi_g]
        have c7 : (pI (b : Nat)).toNatClampNeg = b := by rw [pi_cn (by omega) (by omega), Int.toNat_natCast]
        have hedge : eg σ c q b := ⟨⟨hc, hq1, hq, by omega⟩, eb, c2⟩
        obtain ⟨w, ew⟩ : ∃ w : Int, w = if n + tk q < iv N 185 b then n + tk q else iv N 185 b := ⟨_, rfl⟩
        have c8 : (if pI n + pI (tk q) < pI (iv N 185 b) then pI n + pI (tk q) else pI (iv N 185 b)) = pI w := by
          rw [pi_add, ew]
          by_cases e : n + tk q < iv N 185 b
          · rw [if_pos e, if_pos (show pI (n + tk q) < pI (iv N 185 b) by rw [pi_lt (by omega) (by omega) (by omega) (by omega)]; exact e)]
          · rw [if_neg e, if_neg (show ¬ (pI (n + tk q) < pI (iv N 185 b)) by rw [pi_lt (by omega) (by omega) (by omega) (by omega)]; exact e)]
        have hw : w ≤ n + tk q ∧ w ≤ iv N 185 b ∧ (w = n + tk q ∨ w = iv N 185 b) ∧ 0 ≤ w ∧ (iv N 185 b ≤ n → w = iv N 185 b) ∧ (n < iv N 185 b → n < w) := by
          rw [ew]
          split <;> omega
        rw [k4, am_b_some, if_pos ci0, pi_ci (by omega) (by omega) (by omega), pi_ci (by omega) (by omega) (by omega), k3, am_b_some, pi_ci (by omega) (by omega) (by omega), c5, c6, c8, c7]
        have hv : ∀ x, iv (am_s N 185 b (pI w)) 185 x = if x = b then w else iv N 185 x := fun x => by
          rw [iv_s (by omega) (by omega)]
          by_cases e : x = b
          · rw [if_pos ⟨rfl, e⟩, if_pos e]
          · rw [if_neg (fun z => e z.2), if_neg e]
        refine ⟨(pI (q + 1 : Nat), am_s N 185 b (pI w)), rfl, rfl, by omega, fr_trans hf (fr_s (by simp)), fun x hx hl => ?_, fun x hx hl => ?_, fun x hx => ?_, fun a b' ha he => ?_⟩
        · dsimp only
          rw [hv]
          have h1 := p1 x hx hl
          by_cases e : x = b
          · rw [if_pos e]
            subst e
            omega
          · rw [if_neg e]; exact h1
        · dsimp only
          rw [hv]
          have h1 := p2 x hx hl
          by_cases e : x = b
          · rw [if_pos e]
            subst e
            omega
          · rw [if_neg e]; exact h1
        · dsimp only
          rw [hv]
          by_cases e : x = b
          · rw [if_pos e]
            subst e
            rcases hw.2.2.1 with h1 | h1
            · exact Or.inr ⟨q, hedge, h1⟩
            · rw [h1]; exact p3 x hx
          · rw [if_neg e]; exact p3 x hx
        · dsimp only
          rw [hv]
          by_cases e : a = q
          · subst e
            have h1 := he.2.1
            rw [eb] at h1
            rw [if_pos (by omega)]
            exact hw.1
          · have h3 := p4 a b' (by omega) he
            by_cases e2 : b' = b
            · rw [if_pos e2]
              subst e2
              omega
            · rw [if_neg e2]; exact h3) (by
    rintro m ⟨ap, N⟩ ⟨e1, hq1, hf, p1, p2, p3, p4⟩
    dsimp only at e1 hf p1 p2 p3 p4
    subst e1
    refine ⟨((), N), ?_, hf, p1, p2, p3, fun a b he => p4 a b he.1.2.2.1 he⟩
    dsimp only
    rw [g_X10_relaxes_L2, if_pos (by decide)])
  refine ⟨N, ?_, f1, p1, p2, p3, p4⟩
  unfold g_X10_relaxes
  dsimp only at g1
  rw [show (1 : Int32) = pI 1 from rfl, g1, am_b_some]
/-- what stands in the model's array in a round -/
def RI (σ : Nat → Int) (s : Nat) (n : Int) (q : Nat) (d : Nat → Int) : Prop := (∀ x, x < 40 → 0 ≤ d x ∧ d x ≤ 1000000) ∧ (d s = if σ (8 + s) = 1 then 1000000 else 0) ∧ (∀ c a b, eg σ c a b → d c < n ∨ (d c = n ∧ c < q) → d b ≤ d c + tk a) ∧ ∀ b, b < 40 → d b < 1000000 → b = s ∨ ∃ c a, eg σ c a b ∧ d c ≤ n ∧ d b = d c + tk a
theorem s_mround {σ : Nat → Int} {s : Nat} {n : Int} {P : am_M} (hs : sg P = σ) (hwl : wl σ) (hs40 : s < 40) (hn : 0 ≤ n ∧ n < 120) (h0 : RI σ s n 0 (fun c => iv P 185 c)) : ∃ N : am_M, g_X10_measures_L47 (pI n) am_fu (0 : Int32) P = some ((), N) ∧ fr [185] P N ∧ RI σ s (n + 1) 0 (fun c => iv N 185 c) := by
  obtain ⟨⟨u, N⟩, g1, f1, p1⟩ := lo_for (fun m (s : Int32 × am_M) => g_X10_measures_L47 (pI n) m s.1 s.2) (fun q s' => s'.1 = pI (q : Nat) ∧ fr [185] P s'.2 ∧ RI σ s n q (fun c => iv s'.2 185 c)) (fun s' => fr [185] P s'.2 ∧ RI σ s n 40 (fun c => iv s'.2 185 c)) 0 40 (pI 0, P) ⟨rfl, fr_refl _ _, h0⟩ (by omega) (by unfold am_fu; omega) (by
    rintro m q ⟨ap, N⟩ hq ⟨e1, hf, p1, p2, p3, p4⟩
    dsimp only at e1 hf p1 p2 p3 p4
    subst e1
    left
    have hsN : sg N = σ := (sg_fr hf (by decide)).trans hs
    have nx : pI (q : Nat) + (1 : Int32) = pI (q + 1 : Nat) := by rw [show (1 : Int32) = pI 1 from rfl, pi_add]; rfl
    have c6 : am_g N 185 (pI (q : Nat)).toNatClampNeg = pI (iv N 185 q) := by rw [pi_cn (by omega) (by omega), Int.toNat_natCast, pi_g]
    have hbq := p1 q hq
    dsimp only
    rw [g_X10_measures_L47, if_neg (show ¬ ((40 : Int32) ≤ pI (q : Nat)) by rw [show (40 : Int32) = pI 40 from rfl, pi_le (by omega) (by omega) (by omega) (by omega)]; omega), pi_ci (by omega) (by omega) (by omega), c6, nx]
    by_cases c1 : iv N 185 q = n
    · obtain ⟨N', g2, f2, r1, r2, r3, r4⟩ := s_relaxes (c := q) (n := n) hsN hwl hq p1 c1
      rw [if_pos (congrArg pI c1), g2, am_b_some]
      have lo : ∀ x, x < 40 → iv N' 185 x ≤ iv N 185 x := fun x hx => by
        by_cases e : iv N 185 x ≤ n
        · rw [r1 x hx e]; exact Int.le_refl _
        · exact (r2 x hx (by omega)).2
      have back : ∀ x, x < 40 → iv N' 185 x ≤ n → iv N' 185 x = iv N 185 x := fun x hx h => by
        by_cases e : iv N 185 x ≤ n
        · exact r1 x hx e
        · have := r2 x hx (by omega)
          omega
      refine ⟨(pI (q + 1 : Nat), N'), rfl, rfl, fr_trans hf f2, fun x hx => ?_, ?_, fun c a b he hc => ?_, fun b hb hl => ?_⟩
      · dsimp only
        have h1 := lo x hx
        have h2 := p1 x hx
        by_cases e : iv N 185 x ≤ n
        · rw [r1 x hx e]; exact h2
        · have := r2 x hx (by omega)
          omega
      · dsimp only
        rw [← p2]
        rcases r3 s hs40 with e | ⟨a, he, e⟩
        · exact e
        · rw [if_neg he.2.2] at p2
          exact r1 s hs40 (by omega)
      · dsimp only at hc ⊢
        have h1 := back c he.1.1 (by omega)
        by_cases e : c = q
        · subst e
          have := r4 a b he
          omega
        · have h2 := p3 c a b he (by omega)
          have h3 := lo b he.1.2.2.2
          omega
      · dsimp only at hl ⊢
        rcases r3 b hb with e | ⟨a, he, e⟩
        · rcases p4 b hb (by omega) with h1 | ⟨c, a, he, h2, h3⟩
          · exact Or.inl h1
          · have h4 := r1 c he.1.1 h2
            exact Or.inr ⟨c, a, he, by omega, by omega⟩
        · have h4 := r1 q hq (by omega)
          exact Or.inr ⟨q, a, he, by omega, by omega⟩
    · rw [if_neg (show ¬ (pI (iv N 185 q) = pI n) by rw [pi_eq (by omega) (by omega) (by omega) (by omega)]; exact c1)]
      refine ⟨(pI (q + 1 : Nat), N), rfl, rfl, hf, p1, p2, fun c a b he hc => ?_, p4⟩
      dsimp only at hc ⊢
      by_cases e : c = q
      · subst e
        exact p3 c a b he (by omega)
      · exact p3 c a b he (by omega)) (by
    rintro m ⟨ap, N⟩ ⟨e1, hf, p1⟩
    dsimp only at e1 hf p1
    subst e1
    refine ⟨((), N), ?_, hf, p1⟩
    dsimp only
    rw [g_X10_measures_L47, if_pos (by decide)])
  dsimp only at g1 f1 p1
  refine ⟨N, g1, f1, p1.1, p1.2.1, fun c a b he hc => p1.2.2.1 c a b he ?_, fun b hb hl => ?_⟩
  · have := he.1.1
    dsimp only at hc ⊢
    omega
  · rcases p1.2.2.2 b hb hl with h1 | ⟨c, a, he, h2, h3⟩
    · exact Or.inl h1
    · exact Or.inr ⟨c, a, he, by omega, h3⟩
theorem RI_small {σ : Nat → Int} {s : Nat} {n : Int} {d : Nat → Int} (h : RI σ s n 0 d) : ∀ m : Nat, ∀ b, b < 40 → d b < 1000000 → d b ≤ m → d b ≤ 3 * (ct d (d b) 40 : Nat) := by
  intro m
  induction m with
  | zero => intro b hb hl h1; omega
  | succ m ih =>
    intro b hb hl h1
    rcases h.2.2.2 b hb hl with rfl | ⟨c, a, he, h2, h3⟩
    · have h4 := h.2.1
      split at h4 <;> omega
    · have h6 := tk_pos a
      have h7 := ih c he.1.1 (by omega) (by omega)
      have h8 := ct_lt (d := d) (v := d c) (w := d b) (q := 40) (c := c) (by omega) he.1.1 (by omega) (by omega)
      omega
/-- the model measures -/
theorem s_measures {σ : Nat → Int} {s : Nat} {P : am_M} (hs : sg P = σ) (hwl : wl σ) (hs40 : s < 40) : ∃ N : am_M, g_X10_measures (pI s) P = some ((), N) ∧ fr [185] P N ∧ DG σ s (fun c => iv N 185 c) := by
  obtain ⟨⟨u, N1⟩, g1, f1, p1⟩ := lo_for (fun m (s' : Int32 × am_M) => g_X10_measures_L2 (pI s) m s'.1 s'.2) (fun q s' => s'.1 = pI (q : Nat) ∧ fr [185] P s'.2 ∧ ∀ x, x < q → iv s'.2 185 x = 1000000) (fun s' => fr [185] P s'.2 ∧ ∀ x, x < 40 → iv s'.2 185 x = 1000000) 0 40 (pI 0, P) ⟨rfl, fr_refl _ _, fun x hx => by omega⟩ (by omega) (by unfold am_fu; omega) (by
    rintro m q ⟨ap, N⟩ hq ⟨e1, hf, p1⟩
    dsimp only at e1 hf p1
    subst e1
    left
    have nx : pI (q : Nat) + (1 : Int32) = pI (q + 1 : Nat) := by rw [show (1 : Int32) = pI 1 from rfl, pi_add]; rfl
    have c7 : (pI (q : Nat)).toNatClampNeg = q := by rw [pi_cn (by omega) (by omega), Int.toNat_natCast]
    dsimp only
    rw [g_X10_measures_L2, if_neg (show ¬ ((40 : Int32) ≤ pI (q : Nat)) by rw [show (40 : Int32) = pI 40 from rfl, pi_le (by omega) (by omega) (by omega) (by omega)]; omega), pi_ci (by omega) (by omega) (by omega), nx, c7]
    refine ⟨(pI (q + 1 : Nat), am_s N 185 q (pI 1000000)), rfl, rfl, fr_trans hf (fr_s (by simp)), fun x hx => ?_⟩
    dsimp only
    rw [iv_s (by omega) (by omega)]
    by_cases e : x = q
    · rw [if_pos ⟨rfl, e⟩]
    · rw [if_neg (fun z => e z.2)]; exact p1 x (by omega)) (by
    rintro m ⟨ap, N⟩ ⟨e1, hf, p1⟩
    dsimp only at e1 hf p1
    subst e1
    refine ⟨((), N), ?_, hf, p1⟩
    dsimp only
    rw [g_X10_measures_L2, if_pos (by decide)])
  dsimp only at g1 f1 p1
  have hs1 : sg N1 = σ := (sg_fr f1 (by decide)).trans hs
  have main : ∀ N2 : am_M, fr [185] P N2 → RI σ s 0 0 (fun c => iv N2 185 c) → ∃ N : am_M, g_X10_measures_L39 am_fu (0 : Int32) N2 = some ((), N) ∧ fr [185] P N ∧ DG σ s (fun c => iv N 185 c) := by
    intro N2 f2 h2
    obtain ⟨⟨u, N⟩, g3, f3, p3⟩ := lo_for (fun m (s' : Int32 × am_M) => g_X10_measures_L39 m s'.1 s'.2) (fun q s' => s'.1 = pI (q : Nat) ∧ fr [185] P s'.2 ∧ RI σ s q 0 (fun c => iv s'.2 185 c)) (fun s' => fr [185] P s'.2 ∧ RI σ s 120 0 (fun c => iv s'.2 185 c)) 0 120 (pI 0, N2) ⟨rfl, f2, h2⟩ (by omega) (by unfold am_fu; omega) (by
      rintro m q ⟨ap, N⟩ hq ⟨e1, hf, p1⟩
      dsimp only at e1 hf p1
      subst e1
      left
      have hsN : sg N = σ := (sg_fr hf (by decide)).trans hs
      have nx : pI (q : Nat) + (1 : Int32) = pI (q + 1 : Nat) := by rw [show (1 : Int32) = pI 1 from rfl, pi_add]; rfl
      obtain ⟨N', g4, f4, p4⟩ := s_mround (n := (q : Int)) hsN hwl hs40 (by omega) p1
      dsimp only
      rw [g_X10_measures_L39, if_neg (show ¬ ((120 : Int32) ≤ pI (q : Nat)) by rw [show (120 : Int32) = pI 120 from rfl, pi_le (by omega) (by omega) (by omega) (by omega)]; omega), g4, am_b_some, nx]
      exact ⟨(pI (q + 1 : Nat), N'), rfl, rfl, fr_trans hf f4, p4⟩) (by
      rintro m ⟨ap, N⟩ ⟨e1, hf, p1⟩
      dsimp only at e1 hf p1
      subst e1
      refine ⟨((), N), ?_, hf, p1⟩
      dsimp only
      rw [g_X10_measures_L39, if_pos (by decide)])
    dsimp only at g3 f3 p3
    refine ⟨N, g3, f3, p3.1, p3.2.1, fun c a b he hl => ?_, fun b hb hl => ?_⟩
    · dsimp only at hl ⊢
      have h5 := p3.1 c he.1.1
      have h4 := RI_small p3 (iv N 185 c).toNat c he.1.1 hl (by dsimp only at h5 ⊢; omega)
      have h6 := ct_self (d := fun c => iv N 185 c) (q := 40) (c := c) he.1.1
      dsimp only at h4 h5 h6
      exact p3.2.2.1 c a b he (Or.inl (by dsimp only; omega))
    · rcases p3.2.2.2 b hb hl with h1 | ⟨c, a, he, h2, h3⟩
      · exact Or.inl h1
      · exact Or.inr ⟨c, a, he, by omega, h3⟩
  have k4 := s_misWall (c := (s : Int)) N1 (by omega) (by omega)
  rw [hs1, show (8 + (s : Int)).toNat = 8 + s by omega] at k4
  unfold g_X10_measures
  rw [show (0 : Int32) = pI 0 from rfl, g1, am_b_some, k4, am_b_some]
  by_cases c2 : σ (8 + s) = 1
  · obtain ⟨N, g5, f5, p5⟩ := main N1 f1 ⟨fun x hx => by dsimp only; rw [p1 x hx]; omega, by dsimp only; rw [p1 s hs40, if_pos c2], fun c a b he hc => by
      dsimp only at hc ⊢
      rw [p1 c he.1.1] at hc
      omega, fun b hb hl => by
      dsimp only at hl
      rw [p1 b hb] at hl
      omega⟩
    rw [if_pos c2, if_neg cp1]
    exact ⟨N, (congrArg (fun z => am_b z _) g5).trans rfl, f5, p5⟩
  · have hv : ∀ x, iv (am_s N1 185 s (pI 0)) 185 x = if x = s then 0 else iv N1 185 x := fun x => by
      rw [iv_s (by omega) (by omega)]
      by_cases e : x = s
      · rw [if_pos ⟨rfl, e⟩, if_pos e]
      · rw [if_neg (fun z => e z.2), if_neg e]
    have c7 : (pI (s : Nat)).toNatClampNeg = s := by rw [pi_cn (by omega) (by omega), Int.toNat_natCast]
    obtain ⟨N, g5, f5, p5⟩ := main (am_s N1 185 s (pI 0)) (fr_trans f1 (fr_s (by simp))) ⟨fun x hx => by
      dsimp only
      rw [hv]
      split
      · omega
      · rw [p1 x hx]; omega, by dsimp only; rw [hv, if_pos rfl, if_neg c2], fun c a b he hc => by
      dsimp only at hc ⊢
      have : iv (am_s N1 185 s (pI 0)) 185 c ≥ 0 := by
        rw [hv]
        split
        · omega
        · rw [p1 c he.1.1]; omega
      omega, fun b hb hl => by
      dsimp only at hl
      rw [hv] at hl
      by_cases e : b = s
      · exact Or.inl e
      · rw [if_neg e, p1 b hb] at hl
        omega⟩
    rw [if_neg c2, if_pos rfl, pi_ci (by omega) (by omega) (by omega), c7]
    exact ⟨N, (congrArg (fun z => am_b z _) g5).trans rfl, f5, p5⟩
end SC
