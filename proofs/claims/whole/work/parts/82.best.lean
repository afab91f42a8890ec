/-! the best robot for a task -/
section RQ
def AM (p : Nat → Nat → Prop) (q : Nat) (b : Int) (t : Nat) : Prop := (b = -1 ∧ ∀ c : Nat, c < q → ∀ e, ¬ p c e) ∨ ∃ c0 : Nat, b = c0 ∧ c0 < q ∧ p c0 t ∧ ∀ c : Nat, c < q → ∀ e, p c e → t ≤ e ∧ (c < c0 → t < e)
theorem AM_uniq {p : Nat → Nat → Prop} {q : Nat} {b b' : Int} {t t' : Nat} (h : AM p q b t) (h2 : AM p q b' t') : b = b' := by
  rcases h with ⟨rfl, h1⟩ | ⟨c0, rfl, a1, a3, a4⟩
  · rcases h2 with ⟨rfl, h3⟩ | ⟨c1, rfl, b1, b3, b4⟩
    · rfl
    · exact absurd b3 (h1 c1 b1 t')
  · rcases h2 with ⟨rfl, h3⟩ | ⟨c1, rfl, b1, b3, b4⟩
    · exact absurd a3 (h3 c0 a1 t)
    · have x1 := a4 c1 b1 t' b3
      have x2 := b4 c0 a1 t a3
      by_cases z1 : c0 < c1
      · have := x2.2 z1; omega
      · by_cases z2 : c1 < c0
        · have := x1.2 z2; omega
        · omega
theorem AM_skip {p : Nat → Nat → Prop} {q : Nat} {b : Int} {t : Nat} (h : AM p q b t) (hs : ∀ e, p q e → b ≠ -1 ∧ t ≤ e) : AM p (q + 1) b t := by
  rcases h with ⟨rfl, h1⟩ | ⟨c0, rfl, a1, a3, a4⟩
  · refine Or.inl ⟨rfl, fun c hc e he => ?_⟩
    by_cases z : c = q
    · subst z; exact (hs e he).1 rfl
    · exact h1 c (by omega) e he
  · refine Or.inr ⟨c0, rfl, by omega, a3, fun c hc e he => ?_⟩
    by_cases z : c = q
    · subst z; exact ⟨(hs e he).2, fun q => by omega⟩
    · exact a4 c (by omega) e he
theorem AM_take {p : Nat → Nat → Prop} (hu : ∀ c e e', p c e → p c e' → e = e') {q : Nat} {b : Int} {t t' : Nat} (h : AM p q b t) (hp : p q t') (hb : b = -1 ∨ t' < t) : AM p (q + 1) q t' := by
  refine Or.inr ⟨q, rfl, by omega, hp, fun c hc e he => ?_⟩
  by_cases z : c = q
  · subst z
    have := hu _ _ _ hp he
    omega
  · rcases h with ⟨rfl, h1⟩ | ⟨c0, rfl, a1, a3, a4⟩
    · exact absurd he (h1 c (by omega) e)
    · have := a4 c (by omega) e he
      omega
/-- a robot could serve, with its ticks -/
def sp (σ : Nat → Int) (j : Nat) (id : Int) (r e : Nat) : Prop := (id ≠ 0 → ro σ r 2 = 0) ∧ ∃ α n, sv σ j r 0 α n ∧ lt α n = e
theorem sp_uniq {σ : Nat → Int} {j : Nat} {id : Int} : ∀ r e e', sp σ j id r e → sp σ j id r e' → e = e' := by
  rintro r e e' ⟨_, α, n, h1, rfl⟩ ⟨_, β, m, h2, rfl⟩
  obtain ⟨rfl, h3⟩ := (sv_uniq h1 h2).2 rfl
  exact lt_congr h3
theorem s_bestFor {σ : Nat → Int} {j : Nat} {id : Int} {M : am_M} (hW : WD σ 1 M) (hO : OK σ) (hj : (j : Int) < σ 7) (hid : id = 0 ∨ id = 1) : ∃ (b : Int) (t : Nat) (N : am_M), g_X3_bestFor (pI j) (pI id) M = some (pI b, N) ∧ fr [158, 159, 160, 162, 163, 164, 165] M N ∧ AM (sp σ j id) (σ 6).toNat b t ∧ -1 ≤ b := by
  have h6 := hO.2.2.1
  have h7 := hO.2.2.2.1
  obtain ⟨⟨u, N⟩, g2, f2, b, t, ex, hb1, hN⟩ := lo_for (fun m (s : Int32 × Int32 × Int32 × am_M) => g_X3_bestFor_L9 (pI j) (pI id) m s.1 s.2.1 s.2.2.1 s.2.2.2) (fun q s => s.2.2.1 = pI (q : Nat) ∧ fr [158, 159, 160, 162, 163, 164, 165] M s.2.2.2 ∧ ∃ (b : Int) (t : Nat), s.1 = pI b ∧ (-1 ≤ b ∧ b < 40) ∧ (t ≤ 30 ∨ t = 1000000) ∧ (b = -1 → t = 1000000) ∧ s.2.1 = pI (t : Nat) ∧ AM (sp σ j id) q b t) (fun s => fr [158, 159, 160, 162, 163, 164, 165] M s.2 ∧ ∃ (b : Int) (t : Nat), s.1 = pI b ∧ -1 ≤ b ∧ AM (sp σ j id) (σ 6).toNat b t) 0 (σ 6).toNat (pI (-1), pI 1000000, pI 0, M) ⟨rfl, fr_refl _ _, -1, 1000000, rfl, by omega, Or.inr rfl, fun _ => rfl, rfl, Or.inl ⟨rfl, fun c hc => by omega⟩⟩ (by omega) (by unfold am_fu; omega) (by
    rintro m q ⟨v1, v2, v3, N⟩ hq ⟨e3, hf, b, t, e1, hb, ht, hbt, e2, hNC⟩
    dsimp only at e1 e2 e3 hf
    subst e1 e2 e3
    left
    have hWN : WD σ 1 N := WD_fr hW h6.2 h7.2 hf (by intro z z1 z2 z3; simp at z3; omega)
    have c2 : am_g N 1 2 = pI (σ 6) := by rw [pi_g, hWN.2.1.1]
    have c3 : pI (q : Nat) + (1 : Int32) = pI (q + 1 : Nat) := by rw [show (1 : Int32) = pI 1 from rfl, pi_add]; rfl
    have cle : ¬ (am_g N 1 2 ≤ pI (q : Nat)) := by rw [c2, pi_le (by omega) (by omega) (by omega) (by omega)]; omega
    have hask : ∀ (a : Int), a = 0 ∨ a = 1 → (a = 0 ↔ (id ≠ 0 ∧ ro σ q 2 ≠ 0)) → ∃ s' : Int32 × Int32 × Int32 × am_M, g_X3_bestFor_J42 (g_X3_bestFor_L9 (pI j) (pI id) m) (pI j) (pI id) (pI b) (pI (t : Nat)) (pI (q : Nat)) (pI a) N = g_X3_bestFor_L9 (pI j) (pI id) m s'.1 s'.2.1 s'.2.2.1 s'.2.2.2 ∧ s'.2.2.1 = pI (q + 1 : Nat) ∧ fr [158, 159, 160, 162, 163, 164, 165] M s'.2.2.2 ∧ ∃ (b : Int) (t : Nat), s'.1 = pI b ∧ (-1 ≤ b ∧ b < 40) ∧ (t ≤ 30 ∨ t = 1000000) ∧ (b = -1 → t = 1000000) ∧ s'.2.1 = pI (t : Nat) ∧ AM (sp σ j id) (q + 1) b t := fun a ha hai => by
      unfold g_X3_bestFor_J42
      by_cases ha0 : a = 0
      · rw [if_pos (show pI a = (0 : Int32) by rw [ha0]; rfl), c3]
        refine ⟨(pI b, pI (t : Nat), pI (q + 1 : Nat), N), rfl, rfl, hf, b, t, rfl, hb, ht, hbt, rfl, AM_skip hNC (fun e he => ?_)⟩
        have := hai.mp ha0
        exact absurd (he.1 this.1) this.2
      · have ha1 : a = 1 := by omega
        rw [if_neg (show ¬ (pI a = (0 : Int32)) by rw [ha1]; decide)]
        obtain ⟨w, α, n, O, g3, f3, hw, hsv, hyes⟩ := s_findService (j := j) (r := q) hWN hO (by omega) hj
        rw [g3, am_b_some, c3]
        by_cases hw0 : w = 0
        · subst hw0
          obtain ⟨hR, _⟩ := hyes rfl
          have hL := sv_LG hO (by omega) hj hsv
          have hlt := hL.2.1.2.2.1
          have hpl : sp σ j id q (lt α n) := ⟨fun z => by
            by_cases z2 : ro σ q 2 = 0
            · exact z2
            · exact absurd (hai.mpr ⟨z, z2⟩) ha0, α, n, hsv, rfl⟩
          have c4 : am_g O 158 3 = pI (lt α n : Nat) := by rw [pi_g, hR.1]
          rw [if_pos ci0, c4]
          by_cases hle : t ≤ lt α n
          · rw [if_pos (show pI (t : Nat) ≤ pI (lt α n : Nat) by rw [pi_le (by omega) (by omega) (by omega) (by omega)]; omega)]
            refine ⟨(pI b, pI (t : Nat), pI (q + 1 : Nat), O), rfl, rfl, fr_trans hf f3, b, t, rfl, hb, ht, hbt, rfl, AM_skip hNC (fun e he => ?_)⟩
            have := sp_uniq _ _ _ hpl he
            exact ⟨fun z => by have := hbt z; omega, by omega⟩
          · rw [if_neg (show ¬ (pI (t : Nat) ≤ pI (lt α n : Nat)) by rw [pi_le (by omega) (by omega) (by omega) (by omega)]; omega)]
            exact ⟨(pI (q : Nat), pI (lt α n : Nat), pI (q + 1 : Nat), O), rfl, rfl, fr_trans hf f3, q, lt α n, rfl, by omega, Or.inl (by omega), fun z => by omega, rfl, AM_take sp_uniq hNC hpl (Or.inr (by omega))⟩
        · rw [if_neg (show ¬ (pI w = (0 : Int32)) from fun z => hw0 ((pi_eq (b := 0) (by omega) (by omega) (by omega) (by omega)).mp z))]
          refine ⟨(pI b, pI (t : Nat), pI (q + 1 : Nat), O), rfl, rfl, fr_trans hf f3, b, t, rfl, hb, ht, hbt, rfl, AM_skip hNC (fun e he => ?_)⟩
          obtain ⟨_, β, m', h1, _⟩ := he
          have := (sv_uniq hsv h1).1
          exact absurd this hw0
    dsimp only
    rw [g_X3_bestFor_L9, if_neg cle]
    by_cases hi0 : id = 0
    · rw [if_pos (show pI id = (0 : Int32) by rw [hi0]; rfl)]
      exact hask 1 (Or.inr rfl) ⟨fun z => by omega, fun z => absurd hi0 z.1⟩
    · have hi1 : id = 1 := by omega
      rw [if_neg (show ¬ (pI id = (0 : Int32)) by rw [hi1]; decide), s_isIdle hWN hO (r := q) (by omega), am_b_some]
      by_cases hz : ro σ q 2 = 0
      · rw [if_pos hz, if_neg ci1]
        exact hask 1 (Or.inr rfl) ⟨fun z => by omega, fun z => absurd hz z.2⟩
      · rw [if_neg hz, if_pos ci0]
        exact hask 0 (Or.inl rfl) ⟨fun _ => ⟨hi0, hz⟩, fun _ => rfl⟩) (by
    rintro m ⟨v1, v2, v3, N⟩ ⟨e3, hf, b, t, e1, hb, ht, hbt, e2, hNC⟩
    dsimp only at e1 e2 e3 hf
    subst e1 e2 e3
    have hWN : WD σ 1 N := WD_fr hW h6.2 h7.2 hf (by intro z z1 z2 z3; simp at z3; omega)
    refine ⟨(pI b, N), ?_, hf, b, t, rfl, hb.1, hNC⟩
    dsimp only
    rw [g_X3_bestFor_L9]
    exact if_pos (show am_g N 1 2 ≤ pI ((σ 6).toNat : Nat) by rw [pi_g, hWN.2.1.1, pi_le (by omega) (by omega) (by omega) (by omega)]; omega))
  dsimp only at g2 ex f2
  subst ex
  refine ⟨b, t, N, ?_, f2, hN, hb1⟩
  unfold g_X3_bestFor
  exact (congrArg (fun z => am_b z _) g2).trans rfl
theorem s_bestOf {σ : Nat → Int} {j : Nat} {id : Int} {P : am_M} (hs : sg P = σ) (hO : OK σ) (h11 : iv P 174 11 = -1) (hj : (j : Int) < σ 7) (hid : id = 0 ∨ id = 1) : ∃ (b : Int) (t : Nat) (N : am_M), g_X10_bestOf (pI j) (pI id) P = some (pI b, N) ∧ fr [174, 180, 181, 182, 183, 184] P N ∧ (∀ k, k ≠ 15 → k ≠ 16 → k ≠ 17 → iv N 174 k = iv P 174 k) ∧ AM (sp σ j id) (σ 6).toNat b t ∧ -1 ≤ b := by
  have h6 := hO.2.2.1
  obtain ⟨⟨u, N⟩, g2, f2, k2, b, t, ex, hb1, hN⟩ := lo_for (fun m (s : Int32 × Int32 × Int32 × am_M) => g_X10_bestOf_L8 (pI j) (pI id) m s.1 s.2.1 s.2.2.1 s.2.2.2) (fun q s => s.2.2.1 = pI (q : Nat) ∧ fr [174, 180, 181, 182, 183, 184] P s.2.2.2 ∧ (∀ k, k ≠ 15 → k ≠ 16 → k ≠ 17 → iv s.2.2.2 174 k = iv P 174 k) ∧ ∃ (b : Int) (t : Nat), s.1 = pI b ∧ (-1 ≤ b ∧ b < 40) ∧ t ≤ 30 ∧ s.2.1 = pI (t : Nat) ∧ AM (sp σ j id) q b t) (fun s => fr [174, 180, 181, 182, 183, 184] P s.2 ∧ (∀ k, k ≠ 15 → k ≠ 16 → k ≠ 17 → iv s.2 174 k = iv P 174 k) ∧ ∃ (b : Int) (t : Nat), s.1 = pI b ∧ -1 ≤ b ∧ AM (sp σ j id) (σ 6).toNat b t) 0 (σ 6).toNat (pI (-1), pI 0, pI 0, P) ⟨rfl, fr_refl _ _, fun k _ _ _ => rfl, -1, 0, rfl, by omega, by omega, rfl, Or.inl ⟨rfl, fun c hc => by omega⟩⟩ (by omega) (by unfold am_fu; omega) (by
    rintro m q ⟨v1, v2, v3, N⟩ hq ⟨e3, hf, hkf, b, t, e1, hb, ht, e2, hNC⟩
    dsimp only at e1 e2 e3 hf hkf
    subst e1 e2 e3
    left
    have hsN : sg N = σ := (sg_fr hf (by decide)).trans hs
    have h11N : iv N 174 11 = -1 := by rw [hkf 11 (by omega) (by omega) (by omega)]; exact h11
    have c2 : am_g N 175 (6 : Int32).toNatClampNeg = pI (σ 6) := by show am_g N 175 6 = _; rw [pi_g, show iv N 175 6 = σ 6 from congrFun hsN 6]
    have c3 : pI (q : Nat) + (1 : Int32) = pI (q + 1 : Nat) := by rw [show (1 : Int32) = pI 1 from rfl, pi_add]; rfl
    have hask : ∀ (a : Int), a = 0 ∨ a = 1 → (a = 0 ↔ (id ≠ 0 ∧ ro σ q 2 ≠ 0)) → ∃ s' : Int32 × Int32 × Int32 × am_M, g_X10_bestOf_J38 (g_X10_bestOf_L8 (pI j) (pI id) m) (pI j) (pI id) (pI b) (pI (t : Nat)) (pI (q : Nat)) (pI a) N = g_X10_bestOf_L8 (pI j) (pI id) m s'.1 s'.2.1 s'.2.2.1 s'.2.2.2 ∧ s'.2.2.1 = pI (q + 1 : Nat) ∧ fr [174, 180, 181, 182, 183, 184] P s'.2.2.2 ∧ (∀ k, k ≠ 15 → k ≠ 16 → k ≠ 17 → iv s'.2.2.2 174 k = iv P 174 k) ∧ ∃ (b : Int) (t : Nat), s'.1 = pI b ∧ (-1 ≤ b ∧ b < 40) ∧ t ≤ 30 ∧ s'.2.1 = pI (t : Nat) ∧ AM (sp σ j id) (q + 1) b t := fun a ha hai => by
      unfold g_X10_bestOf_J38
      by_cases ha0 : a = 0
      · rw [if_pos (show pI a = (0 : Int32) by rw [ha0]; rfl), c3]
        refine ⟨(pI b, pI (t : Nat), pI (q + 1 : Nat), N), rfl, rfl, hf, hkf, b, t, rfl, hb, ht, rfl, AM_skip hNC (fun e he => ?_)⟩
        have := hai.mp ha0
        exact absurd (he.1 this.1) this.2
      · have ha1 : a = 1 := by omega
        rw [if_neg (show ¬ (pI a = (0 : Int32)) by rw [ha1]; decide)]
        obtain ⟨w, α, n, O, g3, f3, k3, hw, hsv, hyes⟩ := s_reason (j := j) (r := q) hsN hO h11N (by omega) hj
        have hkO : ∀ k, k ≠ 15 → k ≠ 16 → k ≠ 17 → iv O 174 k = iv P 174 k := fun k a1 a2 a3 => by rw [k3 k a1 a2 a3, hkf k a1 a2 a3]
        rw [g3, am_b_some, c3]
        by_cases hw0 : w = 0
        · subst hw0
          have hM := hyes rfl
          have hL := sv_LG hO (by omega) hj hsv
          have hlt := hL.2.1.2.2.1
          have hpl : sp σ j id q (lt α n) := ⟨fun z => by
            by_cases z2 : ro σ q 2 = 0
            · exact z2
            · exact absurd (hai.mpr ⟨z, z2⟩) ha0, α, n, hsv, rfl⟩
          have c4 : am_g O 174 16 = pI (lt α n : Nat) := by rw [pi_g, hM.2.1]
          rw [if_pos ci0, c4]
          by_cases hb1 : b = -1
          · rw [if_pos (show pI b = (-1 : Int32) by rw [hb1]; rfl)]
            exact ⟨(pI (q : Nat), pI (lt α n : Nat), pI (q + 1 : Nat), O), rfl, rfl, fr_trans hf f3, hkO, q, lt α n, rfl, by omega, by omega, rfl, AM_take sp_uniq hNC hpl (Or.inl hb1)⟩
          · rw [if_neg (show ¬ (pI b = (-1 : Int32)) from fun z => hb1 ((pi_eq (b := -1) (by omega) (by omega) (by omega) (by omega)).mp z))]
            by_cases hle : t ≤ lt α n
            · rw [if_pos (show pI (t : Nat) ≤ pI (lt α n : Nat) by rw [pi_le (by omega) (by omega) (by omega) (by omega)]; omega)]
              refine ⟨(pI b, pI (t : Nat), pI (q + 1 : Nat), O), rfl, rfl, fr_trans hf f3, hkO, b, t, rfl, hb, ht, rfl, AM_skip hNC (fun e he => ?_)⟩
              have := sp_uniq _ _ _ hpl he
              exact ⟨hb1, by omega⟩
            · rw [if_neg (show ¬ (pI (t : Nat) ≤ pI (lt α n : Nat)) by rw [pi_le (by omega) (by omega) (by omega) (by omega)]; omega)]
              exact ⟨(pI (q : Nat), pI (lt α n : Nat), pI (q + 1 : Nat), O), rfl, rfl, fr_trans hf f3, hkO, q, lt α n, rfl, by omega, by omega, rfl, AM_take sp_uniq hNC hpl (Or.inr (by omega))⟩
        · rw [if_neg (show ¬ (pI w = (0 : Int32)) from fun z => hw0 ((pi_eq (b := 0) (by omega) (by omega) (by omega) (by omega)).mp z))]
          refine ⟨(pI b, pI (t : Nat), pI (q + 1 : Nat), O), rfl, rfl, fr_trans hf f3, hkO, b, t, rfl, hb, ht, rfl, AM_skip hNC (fun e he => ?_)⟩
          obtain ⟨_, β, m', h1, _⟩ := he
          have := (sv_uniq hsv h1).1
          exact absurd this hw0
    dsimp only
    rw [g_X10_bestOf_L8, aci _ _ _ (by decide), c2, if_neg (show ¬ (pI (σ 6) ≤ pI (q : Nat)) by rw [pi_le (by omega) (by omega) (by omega) (by omega)]; omega)]
    by_cases hi0 : id = 0
    · rw [if_pos (show pI id = (0 : Int32) by rw [hi0]; rfl)]
      exact hask 1 (Or.inr rfl) ⟨fun z => by omega, fun z => absurd hi0 z.1⟩
    · have hi1 : id = 1 := by omega
      rw [if_neg (show ¬ (pI id = (0 : Int32)) by rw [hi1]; decide), s_misIdle hsN (hO.2.2.2.2.2.1 q (by omega)).1 (by omega), am_b_some]
      by_cases hz : ro σ q 2 = 0
      · rw [if_pos hz, if_neg ci1]
        exact hask 1 (Or.inr rfl) ⟨fun z => by omega, fun z => absurd hz z.2⟩
      · rw [if_neg hz, if_pos ci0]
        exact hask 0 (Or.inl rfl) ⟨fun _ => ⟨hi0, hz⟩, fun _ => rfl⟩) (by
    rintro m ⟨v1, v2, v3, N⟩ ⟨e3, hf, hkf, b, t, e1, hb, ht, e2, hNC⟩
    dsimp only at e1 e2 e3 hf hkf
    subst e1 e2 e3
    have hsN : sg N = σ := (sg_fr hf (by decide)).trans hs
    have c2 : am_g N 175 (6 : Int32).toNatClampNeg = pI (σ 6) := by show am_g N 175 6 = _; rw [pi_g, show iv N 175 6 = σ 6 from congrFun hsN 6]
    refine ⟨(pI b, N), ?_, hf, hkf, b, t, rfl, hb.1, hNC⟩
    dsimp only
    rw [g_X10_bestOf_L8, aci _ _ _ (by decide), c2]
    exact if_pos (show pI (σ 6) ≤ pI ((σ 6).toNat : Nat) by rw [pi_le (by omega) (by omega) (by omega) (by omega)]; omega))
  dsimp only at g2 ex f2 k2
  subst ex
  refine ⟨b, t, N, ?_, f2, k2, hN, hb1⟩
  unfold g_X10_bestOf
  exact (congrArg (fun z => am_b z _) g2).trans rfl
theorem AM_lt {p : Nat → Nat → Prop} {q : Nat} {b : Int} {t : Nat} (h : AM p q b t) : b < q := by
  rcases h with ⟨rfl, _⟩ | ⟨c0, rfl, a1, _⟩ <;> omega
theorem cs_bestRobot {M : am_M} (hI : INV M) (a : Int32) : CS (g_L_bestRobot a M) (g_X10_bestRobot a) := by
  obtain ⟨x, rfl, hx1, hx2⟩ := pi_cast a
  have hO := hI.1
  have hW := hI.2.1
  have h6 := hO.2.2.1
  have h7 := hO.2.2.2.1
  have g0 := s_demandTask (x := x) (M := M) hx1 hx2
  rw [hW.2.1.2.1] at g0
  by_cases c : 0 ≤ x ∧ x < sg M 7
  · obtain ⟨j, rfl⟩ : ∃ j : Nat, x = j := ⟨x.toNat, by omega⟩
    rw [if_pos c] at g0
    have hst := (hO.2.2.2.2.2.2.1 j c.2).2.2.2.2.2.1
    have g2 := s_servable hW c.2 h7.2 hst
    by_cases hs : it (sg M) j 4 = 0 ∨ it (sg M) j 4 = 3
    · rw [if_pos hs] at g2
      obtain ⟨b, t, N, g3, f3, hAM, hb1⟩ := s_bestFor (id := 0) hW hO c.2 (Or.inl rfl)
      have hb5 := AM_lt hAM
      have hIN : INV N := INV_fr hI f3 (by decide)
      have hsN : sg N = sg M := sg_fr f3 (by decide)
      have hmod : ∀ P, sg P = sg M → iv P 174 11 = -1 → ∃ (R : am_M), fr [174, 180, 181, 182, 183, 184] P R ∧ (∀ k, k ≠ 0 → k ≠ 15 → k ≠ 16 → k ≠ 17 → iv R 174 k = iv P 174 k) ∧ iv R 174 0 = 0 ∧ g_X10_bestRobot (pI j) P = (if pI b = (-1 : Int32) then (am_b (g_X10_fails (3 : Int32) R) (fun v12 M11 => (some (v12, M11)))) else (some (pI b, R))) := fun P hP h11 => by
        have hs0 : sg (am_s P 174 0 (pI 0)) = sg M := sg_t.trans hP
        obtain ⟨b', t', R, g4, f4, k4, hAM', _⟩ := s_bestOf (j := j) (id := 0) hs0 hO (by rw [iv_b (by decide)]; exact h11) c.2 (Or.inl rfl)
        have := AM_uniq hAM hAM'
        subst this
        refine ⟨R, fr_trans (N := am_s P 174 0 (pI 0)) (fr_s (by simp)) f4, fun k q0 q1 q2 q3 => by rw [k4 k q1 q2 q3, iv_b q0], by rw [k4 0 (by omega) (by omega) (by omega), iv_a (by omega) (by omega)], ?_⟩
        unfold g_X10_bestRobot
        have g4' : g_X10_bestOf (pI j) (0 : Int32) (am_s P 174 0 (pI 0)) = some (pI b, R) := g4
        rw [show am_s P 174 0 (0 : Int32) = am_s P 174 0 (pI 0) from rfl, mtask_t hs0 hO c, am_b_some, if_neg ci1, s_toServe hs0 (by omega) hst, am_b_some, if_pos hs, if_neg ci1, g4', am_b_some]
      have g3' : g_X3_bestFor (pI j) (0 : Int32) M = some (pI b, N) := g3
      by_cases hb : b = -1
      · subst hb
        obtain ⟨R, f5, k5, t0, g5⟩ := hmod N hsN hIN.2.2.1
        rw [if_pos (show pI (-1) = (-1 : Int32) from rfl)] at g5
        have hIR : INV R := INV_scr hIN f5 (by decide) (fun k hk => k5 k (by omega) (by omega) (by omega) (by omega))
        refine CS_no (M := M) (k := 3) (P := N) (Q := am_s R 174 0 (pI 3)) (v := 0) ?_ ?_ (thr_s (by omega) (by omega)) (by decide) (INV_thrown hIR _)
        · unfold g_L_bestRobot g_X9_bestRobot
          rw [g0, am_bx_inl, g2, am_bx_inl, g3', am_b_some, if_neg (by decide)]
          rfl
        · rw [g5]
          rfl
      · obtain ⟨R, f5, k5, t0, g5⟩ := hmod (am_ls N 186 0 (pI b).toInt64) hsN hIN.2.2.1
        rw [if_neg (show ¬ (pI b = (-1 : Int32)) from fun z => hb ((pi_eq (b := -1) (by omega) (by omega) (by omega) (by omega)).mp z))] at g5
        refine CS_yes (O := N) (v := pI b) (Q := R) ?_ g5 t0 (fr_l f5 (by decide) 0) (INV_scr (INV_out hIN 0 (pI b).toInt64) f5 (by decide) (fun k hk => k5 k (by omega) (by omega) (by omega) (by omega)))
        unfold g_L_bestRobot g_X9_bestRobot
        rw [g0, am_bx_inl, g2, am_bx_inl, g3', am_b_some, if_pos (show (0 : Int32) ≤ pI b by show pI 0 ≤ _; rw [pi_le (by omega) (by omega) (by omega) (by omega)]; omega)]
        rfl
    · rw [if_neg hs] at g2
      refine CS_no1 (k := 2) (v := 0) hI ?_ ?_ (by omega)
      · unfold g_L_bestRobot g_X9_bestRobot
        rw [g0, am_bx_inl, g2, am_bx_inr]
        rfl
      · unfold g_X10_bestRobot
        rw [show am_s M 174 0 (0 : Int32) = am_s M 174 0 (pI 0) from rfl, mtask_t (σ := sg M) sg_t hO c, am_b_some, if_neg ci1, s_toServe (σ := sg M) sg_t (by omega) hst, am_b_some, if_neg hs, if_pos ci0]
        rfl
  · rw [if_neg c] at g0
    refine CS_no1 (k := 1) (v := 0) hI ?_ ?_ (by omega)
    · unfold g_L_bestRobot g_X9_bestRobot
      rw [g0, am_bx_inr]
      rfl
    · unfold g_X10_bestRobot
      rw [mtask_f (σ := sg M) sg_t hO hx1 hx2 c, am_b_some, if_pos ci0]
      rfl
end RQ
