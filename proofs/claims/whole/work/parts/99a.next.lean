/-! the next open task by deadline and number -/
section NXT
def rk (σ : Nat → Int) (j : Nat) : Int := it σ j 3 * 12 + j
theorem s_rankOf {σ : Nat → Int} {j : Nat} {M : am_M} (hW : WD σ 1 M) (hj : (j : Int) < σ 7) (h7 : σ 7 ≤ 12) : g_X8_rankOf 1 (pI j) M = some (pI (rk σ j), M) := by
  have h3 : iv M (1 + 40 + j) 3 = it σ j 3 := (hW.2.2.2.2 j hj).1.2.2.2
  unfold g_X8_rankOf
  rw [s_taskOf (w := 1) (j := j) M (by omega), am_b_some, pi_g, h3, show (12 : Int32) = pI 12 from rfl, pi_mul, pi_add]
  rfl
/-- b is the first by rank of the p below q, or -1 -/
def NX (σ : Nat → Int) (p : Nat → Prop) (q : Nat) (b : Int) : Prop := (b = -1 ∧ ∀ j : Nat, j < q → ¬ p j) ∨ ∃ j0 : Nat, b = j0 ∧ j0 < q ∧ p j0 ∧ ∀ j : Nat, j < q → p j → rk σ j0 ≤ rk σ j
theorem NX_no {σ : Nat → Int} {p : Nat → Prop} {q : Nat} {b : Int} (h : NX σ p q b) (hp : ¬ p q) : NX σ p (q + 1) b := by
  rcases h with ⟨rfl, h⟩ | ⟨j0, rfl, h1, h2, h3⟩
  · refine Or.inl ⟨rfl, fun j hj hq => ?_⟩
    by_cases e : j = q
    · exact hp (e ▸ hq)
    · exact h j (by omega) hq
  · refine Or.inr ⟨j0, rfl, by omega, h2, fun j hj hq => ?_⟩
    by_cases e : j = q
    · exact absurd (e ▸ hq) hp
    · exact h3 j (by omega) hq
theorem NX_new {σ : Nat → Int} {p : Nat → Prop} {q : Nat} {b : Int} (h : NX σ p q b) (hp : p q) (hb : 0 ≤ b → rk σ q ≤ rk σ b.toNat) : NX σ p (q + 1) q := by
  refine Or.inr ⟨q, rfl, by omega, hp, fun j hj hq => ?_⟩
  by_cases e : j = q
  · rw [e]
    exact Int.le_refl _
  · rcases h with ⟨rfl, h⟩ | ⟨j0, rfl, h1, h2, h3⟩
    · exact absurd hq (h j (by omega))
    · have a1 := h3 j (by omega) hq
      have a2 := hb (by omega)
      rw [Int.toNat_natCast] at a2
      omega
theorem NX_old {σ : Nat → Int} {p : Nat → Prop} {q : Nat} {b : Int} (h : NX σ p q b) (hb : 0 ≤ b) (hr : rk σ b.toNat ≤ rk σ q) : NX σ p (q + 1) b := by
  rcases h with ⟨rfl, h⟩ | ⟨j0, rfl, h1, h2, h3⟩
  · omega
  · rw [Int.toNat_natCast] at hr
    refine Or.inr ⟨j0, rfl, by omega, h2, fun j hj hq => ?_⟩
    by_cases e : j = q
    · rw [e]
      exact hr
    · exact h3 j (by omega) hq
theorem rk_inj {σ : Nat → Int} {i j : Nat} (hi : i < 12) (hj : j < 12) (h : rk σ i = rk σ j) : i = j := by
  unfold rk at h
  omega
theorem NX_uniq {σ : Nat → Int} {p : Nat → Prop} {q : Nat} {b c : Int} (hq : q ≤ 12) (h : NX σ p q b) (h2 : NX σ p q c) : b = c := by
  rcases h with ⟨rfl, h⟩ | ⟨i, rfl, a1, a2, a3⟩
  · rcases h2 with ⟨rfl, _⟩ | ⟨j, rfl, b1, b2, b3⟩
    · rfl
    · exact absurd b2 (h j b1)
  · rcases h2 with ⟨rfl, h⟩ | ⟨j, rfl, b1, b2, b3⟩
    · exact absurd a2 (h i a1)
    · have := rk_inj (σ := σ) (i := i) (j := j) (by omega) (by omega) (by
        have := a3 j b1 b2
        have := b3 i a1 a2
        omega)
      rw [this]
/-- the class's next open task -/
theorem s_next {σ : Nat → Int} {ρ : Int} {M : am_M} (hW : WD σ 1 M) (hO : OK σ) (hρ : -1000 ≤ ρ ∧ ρ ≤ 100000) : ∃ b : Int, g_X8_nextOpenTask 1 (pI ρ) M = some (pI b, M) ∧ NX σ (fun j => it σ j 4 = 0 ∧ ρ < rk σ j) (σ 7).toNat b := by
  have h7 := hO.2.2.2.1
  obtain ⟨⟨u, N⟩, g1, eN, b, eb, hb⟩ := lo_for (fun m (s : Int32 × Int32 × am_M) => g_X8_nextOpenTask_L4 1 (pI ρ) m s.1 s.2.1 s.2.2) (fun q s => s.2.1 = pI (q : Nat) ∧ s.2.2 = M ∧ ∃ b : Int, s.1 = pI b ∧ (-1 ≤ b ∧ b < q) ∧ NX σ (fun j => it σ j 4 = 0 ∧ ρ < rk σ j) q b) (fun s => s.2 = M ∧ ∃ b : Int, s.1 = pI b ∧ NX σ (fun j => it σ j 4 = 0 ∧ ρ < rk σ j) (σ 7).toNat b) 0 (σ 7).toNat (pI (-1), pI 0, M) ⟨rfl, rfl, -1, rfl, by omega, Or.inl ⟨rfl, fun j hj => absurd hj (by omega)⟩⟩ (by omega) (by unfold am_fu; omega) (by
    rintro m q ⟨v, w, N⟩ hq ⟨e1, e2, b, e3, hb, hN⟩
    dsimp only at e1 e2 e3
    subst e1 e2 e3
    left
    have hT := hW.2.2.2.2 q (by omega)
    have hF := hO.2.2.2.2.2.2.1 q (by omega)
    have hd := hF.2.2.2.2.1
    have hs4 := hF.2.2.2.2.2.1
    have rq : -2147483648 ≤ rk σ q ∧ rk σ q < 2147483648 := by unfold rk; omega
    have t0 : g_X8_taskOf 1 (pI q) N = some (1 + 40 + q, N) := s_taskOf N (by omega)
    have k0 := s_rankOf (j := q) hW (by omega) h7.2
    have c5 : am_g N (1 + 40 + q) 5 = pI (it σ q 4) := by rw [pi_g, hT.2.2.1]
    have one : (1 : Int32) = pI 1 := rfl
    have hcond : ¬ am_g N 1 3 ≤ pI q := by
      rw [pi_g, hW.2.1.2.1, pi_le (by omega) (by omega) (by omega) (by omega)]
      omega
    have hstart : ∀ X : Option (Int32 × am_M), (if am_g N 1 3 ≤ pI q then some (pI b, N) else X) = X := fun X => if_neg hcond
    by_cases c : it σ q 4 = 0
    · by_cases d : rk σ q ≤ ρ
      · refine ⟨(pI b, pI (q + 1 : Nat), N), ?_, rfl, rfl, b, rfl, by omega, NX_no hN (fun h => by omega)⟩
        dsimp only
        rw [g_X8_nextOpenTask_L4, hstart, t0, am_b_some, c5, if_pos (show pI (it σ q 4) = (0 : Int32) by rw [c]; rfl), k0, am_b_some, if_pos (show pI (rk σ q) ≤ pI ρ by
          rw [pi_le rq.1 rq.2 (by omega) (by omega)]
          exact d)]
        unfold g_X8_nextOpenTask_J37
        rw [if_pos rfl, one, pi_add]
        rfl
      · have hj37 : g_X8_nextOpenTask_L4 1 (pI ρ) (m + 1) (pI b) (pI q) N = g_X8_nextOpenTask_J37 (g_X8_nextOpenTask_L4 1 (pI ρ) m) 1 (pI ρ) (pI b) (pI q) (1 : Int32) N := by
          rw [g_X8_nextOpenTask_L4, hstart, t0, am_b_some, c5, if_pos (show pI (it σ q 4) = (0 : Int32) by rw [c]; rfl), k0, am_b_some, if_neg (show ¬ pI (rk σ q) ≤ pI ρ by
            rw [pi_le rq.1 rq.2 (by omega) (by omega)]
            exact d)]
        have hp : it σ q 4 = 0 ∧ ρ < rk σ q := ⟨c, by omega⟩
        by_cases e : b < 0
        · refine ⟨(pI q, pI (q + 1 : Nat), N), hj37.trans ?_, rfl, rfl, q, rfl, by omega, NX_new hN hp (fun h => by omega)⟩
          unfold g_X8_nextOpenTask_J37
          rw [if_neg (by decide), if_pos (show pI b < (0 : Int32) by
            show _ < pI 0
            rw [pi_lt (by omega) (by omega) (by omega) (by omega)]
            exact e), one, pi_add]
          rfl
        · obtain ⟨j, rfl⟩ : ∃ j : Nat, b = j := ⟨b.toNat, by omega⟩
          have kj := s_rankOf (j := j) hW (by omega) h7.2
          have hFj := hO.2.2.2.2.2.2.1 j (by omega)
          have hdj := hFj.2.2.2.2.1
          have rj : -2147483648 ≤ rk σ j ∧ rk σ j < 2147483648 := by unfold rk; omega
          by_cases f : rk σ j ≤ rk σ q
          · refine ⟨(pI j, pI (q + 1 : Nat), N), hj37.trans ?_, rfl, rfl, j, rfl, by omega, NX_old hN (by omega) f⟩
            unfold g_X8_nextOpenTask_J37
            rw [if_neg (by decide), if_neg (show ¬ pI (j : Int) < (0 : Int32) by
              show ¬ _ < pI 0
              rw [pi_lt (by omega) (by omega) (by omega) (by omega)]
              exact e), k0, am_b_some, kj, am_b_some, if_pos (show pI (rk σ j) ≤ pI (rk σ q) by
              rw [pi_le rj.1 rj.2 rq.1 rq.2]
              exact f), one, pi_add]
            rfl
          · refine ⟨(pI q, pI (q + 1 : Nat), N), hj37.trans ?_, rfl, rfl, q, rfl, by omega, NX_new hN hp (fun _ => by rw [Int.toNat_natCast]; omega)⟩
            unfold g_X8_nextOpenTask_J37
            rw [if_neg (by decide), if_neg (show ¬ pI (j : Int) < (0 : Int32) by
              show ¬ _ < pI 0
              rw [pi_lt (by omega) (by omega) (by omega) (by omega)]
              exact e), k0, am_b_some, kj, am_b_some, if_neg (show ¬ pI (rk σ j) ≤ pI (rk σ q) by
              rw [pi_le rj.1 rj.2 rq.1 rq.2]
              exact f), one, pi_add]
            rfl
    · refine ⟨(pI b, pI (q + 1 : Nat), N), ?_, rfl, rfl, b, rfl, by omega, NX_no hN (fun h => c h.1)⟩
      dsimp only
      rw [g_X8_nextOpenTask_L4, hstart, t0, am_b_some, c5, if_neg (show ¬ (pI (it σ q 4) = (0 : Int32)) from fun h => c ((pi_eq (b := 0) (by omega) (by omega) (by omega) (by omega)).mp h))]
      unfold g_X8_nextOpenTask_J37
      rw [if_pos rfl, one, pi_add]
      rfl) (by
    rintro m ⟨v, w, N⟩ ⟨e1, e2, b, e3, hb, hN⟩
    dsimp only at e1 e2 e3
    subst e1 e2 e3
    refine ⟨(pI b, N), ?_, rfl, b, rfl, hN⟩
    dsimp only
    rw [g_X8_nextOpenTask_L4, if_pos (show am_g N 1 3 ≤ pI ((σ 7).toNat : Nat) by
      rw [pi_g, hW.2.1.2.1, pi_le (by omega) (by omega) (by omega) (by omega)]
      omega)])
  dsimp only at g1 eN eb
  subst eN eb
  refine ⟨b, ?_, hb⟩
  unfold g_X8_nextOpenTask
  rw [show (-1 : Int32) = pI (-1) from rfl, show (0 : Int32) = pI 0 from rfl, g1, am_b_some]
end NXT
