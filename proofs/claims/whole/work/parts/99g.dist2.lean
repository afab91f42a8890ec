/-! ticks between cells: the class -/
section SB
theorem s_bround {σ : Nat → Int} {G : Nat → Int} {s : Nat} {M : am_M} {a3 : Int32} (hF : FLw σ 1 M) (hwl : wl σ) (hG : DG σ s G) (hb : ∀ x, x < 40 → G x ≤ iv M 6 x ∧ iv M 6 x ≤ 1000000) : ∃ (h : Nat) (N : am_M), g_X1_measureFrom_L46 (1 + 1) a3 am_fu (0 : Int32) (0 : Int32) M = some (pI h, N) ∧ (h = 0 ∨ h = 1) ∧ fr [6] M N ∧ (∀ x, x < 40 → G x ≤ iv N 6 x ∧ iv N 6 x ≤ iv M 6 x) ∧ (∀ c a b, eg σ c a b → iv M 6 c < 1000000 → iv N 6 b ≤ iv M 6 c + tk a) ∧ (h = 0 → ∀ x, x < 40 → iv N 6 x = iv M 6 x) := by
  obtain ⟨⟨u, N⟩, g1, ⟨h, eh, h01⟩, f1, p1, p2⟩ := lo_for (fun m (s : Int32 × Int32 × am_M) => g_X1_measureFrom_L46 (1 + 1) a3 m s.1 s.2.1 s.2.2) (fun q s => s.2.1 = pI (q : Nat) ∧ fr [6] M s.2.2 ∧ (∀ x, x < 40 → G x ≤ iv s.2.2 6 x ∧ iv s.2.2 6 x ≤ iv M 6 x) ∧ (∀ c a b, c < q → eg σ c a b → iv M 6 c < 1000000 → iv s.2.2 6 b ≤ iv M 6 c + tk a) ∧ ∃ h : Nat, s.1 = pI h ∧ (h = 0 ∨ h = 1) ∧ (h = 0 → ∀ x, x < 40 → iv s.2.2 6 x = iv M 6 x)) (fun s => (∃ h : Nat, s.1 = pI h ∧ (h = 0 ∨ h = 1) ∧ (h = 0 → ∀ x, x < 40 → iv s.2 6 x = iv M 6 x)) ∧ fr [6] M s.2 ∧ (∀ x, x < 40 → G x ≤ iv s.2 6 x ∧ iv s.2 6 x ≤ iv M 6 x) ∧ (∀ c a b, eg σ c a b → iv M 6 c < 1000000 → iv s.2 6 b ≤ iv M 6 c + tk a)) 0 40 (pI 0, pI 0, M) ⟨rfl, fr_refl _ _, fun x hx => ⟨(hb x hx).1, Int.le_refl _⟩, fun c a b hc => by omega, 0, rfl, Or.inl rfl, fun _ x hx => rfl⟩ (by omega) (by unfold am_fu; omega) (by
    rintro m q ⟨ch, ap, N⟩ hq ⟨e1, hf, p1, p2, h, eh, h01, p3⟩
    dsimp only at e1 hf p1 p2 eh p3
    subst e1 eh
    left
    have k2 : g_X9_at (1 + 1 + 4) 40 (pI (q : Nat)) N = some (pI (iv N 6 q), N) := by
      rw [s_at1 _ _ _ (by omega) (by omega) (by omega), Int.toNat_natCast]
    have hq1 := p1 q hq
    have hq2 := hb q hq
    have hG0 := hG.1 q hq
    have nx : pI (q : Nat) + (1 : Int32) = pI (q + 1 : Nat) := by rw [show (1 : Int32) = pI 1 from rfl, pi_add]; rfl
    dsimp only
    rw [g_X1_measureFrom_L46, if_neg (show ¬ ((40 : Int32) ≤ pI (q : Nat)) by rw [show (40 : Int32) = pI 40 from rfl, pi_le (by omega) (by omega) (by omega) (by omega)]; omega), k2, am_b_some, nx]
    by_cases c1 : 1000000 ≤ iv N 6 q
    · rw [if_pos (show (1000000 : Int32) ≤ pI (iv N 6 q) by rw [show (1000000 : Int32) = pI 1000000 from rfl, pi_le (by omega) (by omega) (by omega) (by omega)]; exact c1)]
      refine ⟨(pI h, pI (q + 1 : Nat), N), rfl, rfl, hf, p1, fun c a b hc he hl => ?_, h, rfl, h01, p3⟩
      by_cases e : c = q
      · subst e; omega
      · exact p2 c a b (by omega) he hl
    · rw [if_neg (show ¬ ((1000000 : Int32) ≤ pI (iv N 6 q)) by rw [show (1000000 : Int32) = pI 1000000 from rfl, pi_le (by omega) (by omega) (by omega) (by omega)]; exact c1)]
      obtain ⟨h', N', g2, h01', f2, r1, r2, r3⟩ := s_shorten (c := q) (M := N) (FLw_fr hF hf (by intro a b1 b2; simp; omega)) hwl hG hq (fun x hx => ⟨(p1 x hx).1, by have := p1 x hx; have := hb x hx; omega⟩) (by omega)
      rw [g2, am_b_some]
      have q1 : ∀ x, x < 40 → G x ≤ iv N' 6 x ∧ iv N' 6 x ≤ iv M 6 x := fun x hx => by
        have := p1 x hx
        have := r1 x hx
        omega
      have q2 : ∀ c a b, c < q + 1 → eg σ c a b → iv M 6 c < 1000000 → iv N' 6 b ≤ iv M 6 c + tk a := fun c a b hc he hl => by
        by_cases e : c = q
        · subst e
          have := r2 a b he
          omega
        · have := p2 c a b (by omega) he hl
          have := r1 b he.1.2.2.2
          omega
      rcases h01' with rfl | rfl
      · rw [if_pos (show pI ((0 : Nat) : Int) = (0 : Int32) from rfl)]
        exact ⟨(pI h, pI (q + 1 : Nat), N'), rfl, rfl, fr_trans hf f2, q1, q2, h, rfl, h01, fun z x hx => by
          dsimp only
          rw [r3 rfl x hx, p3 z x hx]⟩
      · rw [if_neg (show ¬ (pI ((1 : Nat) : Int) = (0 : Int32)) by decide)]
        exact ⟨(pI 1, pI (q + 1 : Nat), N'), rfl, rfl, fr_trans hf f2, q1, q2, 1, rfl, Or.inr rfl, fun z => by omega⟩) (by
    rintro m ⟨ch, ap, N⟩ ⟨e1, hf, p1, p2, h, eh, h01, p3⟩
    dsimp only at e1 hf p1 p2 eh p3
    subst e1 eh
    refine ⟨(pI h, N), ?_, ⟨h, rfl, h01, p3⟩, hf, p1, fun c a b he => p2 c a b he.1.1 he⟩
    dsimp only
    rw [g_X1_measureFrom_L46, if_pos (by decide)])
  dsimp only at g1 eh h01 f1 p1 p2
  subst eh
  exact ⟨h, N, g1, h01.1, f1, p1, p2, h01.2⟩
theorem DG_fix {σ : Nat → Int} {s : Nat} {G d : Nat → Int} (hG : DG σ s G) (hb : ∀ x, x < 40 → G x ≤ d x ∧ d x ≤ 1000000) (hs : d s = G s) (hf : ∀ c a b, eg σ c a b → d c < 1000000 → d b ≤ d c + tk a) : ∀ b, b < 40 → d b = G b := by
  have key : ∀ n : Nat, ∀ b, b < 40 → G b < 1000000 → G b ≤ n → d b ≤ G b := by
    intro n
    induction n with
    | zero =>
      intro b hb1 h1 h2
      rcases hG.2.2.2 b hb1 h1 with rfl | ⟨c, a, h3, h4, h5⟩
      · rw [hs]; exact Int.le_refl _
      · have h6 := tk_pos a
        have h7 := (hG.1 c h3.1.1).1
        omega
    | succ n ih =>
      intro b hb1 h1 h2
      rcases hG.2.2.2 b hb1 h1 with rfl | ⟨c, a, h3, h4, h5⟩
      · rw [hs]; exact Int.le_refl _
      · have h6 := tk_pos a
        have h7 := ih c h3.1.1 h4 (by omega)
        have h8 := hf c a b h3 (by omega)
        omega
  intro b hb1
  have h1 := hb b hb1
  have h2 := hG.1 b hb1
  by_cases h : G b < 1000000
  · have := key (G b).toNat b hb1 h (by omega)
    omega
  · omega
theorem s_bell {σ : Nat → Int} {G : Nat → Int} {s : Nat} {M : am_M} (hF : FLw σ 1 M) (hwl : wl σ) (hG : DG σ s G) (hs40 : s < 40) (hb : ∀ x, x < 40 → G x ≤ iv M 6 x ∧ iv M 6 x ≤ 1000000) (hs : iv M 6 s = G s) : ∃ N : am_M, g_X1_measureFrom_L31 (1 + 1) am_fu (1 : Int32) (0 : Int32) M = some ((), N) ∧ fr [6] M N ∧ ∀ x, x < 40 → iv N 6 x = G x := by
  obtain ⟨⟨u, N⟩, g1, f1, p1⟩ := lo_for (fun m (s : Int32 × Int32 × am_M) => g_X1_measureFrom_L31 (1 + 1) m s.1 s.2.1 s.2.2) (fun q s' => s'.2.1 = pI (q : Nat) ∧ fr [6] M s'.2.2 ∧ (∀ x, x < 40 → G x ≤ iv s'.2.2 6 x ∧ iv s'.2.2 6 x ≤ 1000000) ∧ iv s'.2.2 6 s = G s ∧ ((s'.1 = pI 1 ∧ ∀ b, b < 40 → G b < 1000000 → ct G (G b) 40 ≤ q → iv s'.2.2 6 b = G b) ∨ (s'.1 = pI 0 ∧ ∀ b, b < 40 → iv s'.2.2 6 b = G b))) (fun s' => fr [6] M s'.2 ∧ ∀ b, b < 40 → iv s'.2 6 b = G b) 0 40 (pI 1, pI 0, M) ⟨rfl, fr_refl _ _, hb, hs, Or.inl ⟨rfl, fun b hb1 hl hc => by
    rcases hG.2.2.2 b hb1 hl with rfl | ⟨c, a, h3, h4, h5⟩
    · exact hs
    · have h6 := tk_pos a
      have h7 := ct_lt (d := G) (v := G c) (w := G b) (q := 40) (c := c) (by omega) h3.1.1 (by omega) (by omega)
      omega⟩⟩ (by omega) (by unfold am_fu; omega) (by
    rintro m q ⟨ch, ap, N⟩ hq ⟨e1, hf, p1, p2, ⟨e2, p3⟩ | ⟨e2, p3⟩⟩
    · dsimp only at e1 hf p1 p2 e2 p3
      subst e1 e2
      left
      have nx : pI (q : Nat) + (1 : Int32) = pI (q + 1 : Nat) := by rw [show (1 : Int32) = pI 1 from rfl, pi_add]; rfl
      obtain ⟨h', N', g2, h01, f2, r1, r2, r3⟩ := s_bround (a3 := pI (q : Nat)) (FLw_fr hF hf (by intro a b1 b2; simp; omega)) hwl hG p1
      dsimp only
      rw [g_X1_measureFrom_L31, if_neg ci1, if_neg (show ¬ ((40 : Int32) ≤ pI (q : Nat)) by rw [show (40 : Int32) = pI 40 from rfl, pi_le (by omega) (by omega) (by omega) (by omega)]; omega), g2, am_b_some, nx]
      have b1 : ∀ x, x < 40 → G x ≤ iv N' 6 x ∧ iv N' 6 x ≤ 1000000 := fun x hx => by
        have := r1 x hx
        have := p1 x hx
        omega
      have b2 : iv N' 6 s = G s := by
        have := r1 s hs40
        omega
      refine ⟨(pI h', pI (q + 1 : Nat), N'), rfl, rfl, fr_trans hf f2, b1, b2, ?_⟩
      rcases h01 with rfl | rfl
      · refine Or.inr ⟨rfl, DG_fix (d := fun x => iv N' 6 x) hG b1 b2 (fun c a b he hl => ?_)⟩
        have h3 := r3 rfl c he.1.1
        have h4 := r2 c a b he (by omega)
        omega
      · refine Or.inl ⟨rfl, fun b hb1 hl hc => ?_⟩
        dsimp only
        rcases hG.2.2.2 b hb1 hl with rfl | ⟨c, a, h3, h4, h5⟩
        · exact b2
        · have h6 := tk_pos a
          have h7 := ct_lt (d := G) (v := G c) (w := G b) (q := 40) (c := c) (by omega) h3.1.1 (by omega) (by omega)
          have h8 := p3 c h3.1.1 h4 (by omega)
          have h9 := r2 c a b h3 (by omega)
          have h10 := b1 b hb1
          omega
    · dsimp only at e1 hf p1 p2 e2 p3
      subst e1 e2
      right
      refine ⟨((), N), ?_, hf, p3⟩
      dsimp only
      rw [g_X1_measureFrom_L31, if_pos ci0]) (by
    rintro m ⟨ch, ap, N⟩ ⟨e1, hf, p1, p2, ⟨e2, p3⟩ | ⟨e2, p3⟩⟩
    · dsimp only at e1 hf p1 p2 e2 p3
      subst e1 e2
      refine ⟨((), N), ?_, hf, fun b hb1 => ?_⟩
      · dsimp only
        rw [g_X1_measureFrom_L31, if_neg ci1, if_pos (by decide)]
      · dsimp only
        have h1 := p1 b hb1
        have h2 := hG.1 b hb1
        by_cases h : G b < 1000000
        · exact p3 b hb1 h (by have := ct_self (d := G) (q := 40) (c := b) hb1; omega)
        · omega
    · dsimp only at e1 hf p1 p2 e2 p3
      subst e1 e2
      refine ⟨((), N), ?_, hf, p3⟩
      dsimp only
      rw [g_X1_measureFrom_L31, if_pos ci0])
  exact ⟨N, g1, f1, p1⟩
theorem DG_wall {σ : Nat → Int} {s : Nat} {G : Nat → Int} (hG : DG σ s G) (h : σ (8 + s) = 1) : ∀ b, b < 40 → G b = 1000000 :=
  DG_uniq (G := fun _ => 1000000) hG ⟨fun c hc => ⟨show (0 : Int) ≤ 1000000 by decide, show (1000000 : Int) ≤ 1000000 by decide⟩, by rw [if_pos h], fun c a b he hl => absurd hl (show ¬ ((1000000 : Int) < 1000000) by decide), fun b hb hl => absurd hl (show ¬ ((1000000 : Int) < 1000000) by decide)⟩
/-- the class measures -/
theorem s_cmeasure {σ : Nat → Int} {G : Nat → Int} {s : Nat} {M : am_M} (hF : FLw σ 1 M) (hwl : wl σ) (hG : DG σ s G) (hs40 : s < 40) : ∃ N : am_M, g_X1_measureFrom (1 + 1) (pI s) M = some ((), N) ∧ fr [6] M N ∧ ∀ x, x < 40 → iv N 6 x = G x := by
  obtain ⟨N1, g1, f1, p1⟩ := s_fill (1 + 1 + 4) 40 (v := 1000000) M (by omega) (by omega) (by omega)
  have f1' : fr [6] M N1 := f1
  have k4 := s_isWall (1 + 1) (c := (s : Int)) N1 (by omega) (by omega)
  have hkb : iv N1 (1 + 1 + 1) (s : Int).toNat = σ (8 + s) := by
    rw [Int.toNat_natCast, fr_i f1' (by decide)]
    exact hF.2.2.1 s hs40
  rw [hkb] at k4
  have p1' : ∀ x, x < 40 → iv N1 6 x = 1000000 := fun x hx => by
    have := p1 x
    rw [if_pos hx] at this
    exact this
  unfold g_X1_measureFrom
  rw [show (1000000 : Int32) = pI 1000000 from rfl, g1, am_b_some, k4, am_b_some]
  by_cases c2 : σ (8 + s) = 1
  · rw [if_pos c2, if_neg ci1]
    exact ⟨N1, rfl, f1', fun x hx => by rw [p1' x hx, DG_wall hG c2 x hx]⟩
  · have k6 : g_X9_put (1 + 1 + 4) 40 (pI s) (0 : Int32) N1 = some ((), am_s N1 6 s (pI 0)) := by
      rw [s_put _ _ _ _ (by omega) (by omega) (by omega), Int.toNat_natCast]
      rfl
    have hv : ∀ x, iv (am_s N1 6 s (pI 0)) 6 x = if x = s then 0 else iv N1 6 x := fun x => by
      rw [iv_s (by omega) (by omega)]
      by_cases e : x = s
      · rw [if_pos ⟨rfl, e⟩, if_pos e]
      · rw [if_neg (fun z => e z.2), if_neg e]
    have f2 : fr [6] M (am_s N1 6 s (pI 0)) := fr_trans f1' (fr_s (by simp))
    have hGs : G s = 0 := by rw [hG.2.1, if_neg c2]
    obtain ⟨N, g3, f3, p3⟩ := s_bell (M := am_s N1 6 s (pI 0)) (FLw_fr hF f2 (by intro a b1 b2; simp; omega)) hwl hG hs40 (fun x hx => by
      have h2 := hG.1 x hx
      rw [hv]
      by_cases e : x = s
      · rw [if_pos e, e, hGs]; omega
      · rw [if_neg e, p1' x hx]; omega) (by rw [hv, if_pos rfl, hGs])
    rw [if_neg c2, if_pos ci0, k6, am_b_some, g3, am_b_some]
    exact ⟨N, rfl, fr_trans f2 f3, p3⟩
end SB
