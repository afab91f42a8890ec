/-! the model's next task out of the mask -/
section NXM
theorem s_mnext {σ : Nat → Int} {P : am_M} {x a2 : Int32} {p : Nat → Prop} (hs : sg P = σ) (hO : OK σ) (hx : LM x p) : ∃ b : Int, g_X10_assignAll_L56 x a2 am_fu (-1 : Int32) (0 : Int32) P = some (pI b, P) ∧ NX σ p (σ 7).toNat b := by
  have h7 := hO.2.2.2.1
  have e7 : am_g P 175 7 = pI (σ 7) := by rw [pi_g, ← hs]; rfl
  obtain ⟨⟨v, N⟩, g1, eN, b, eb, hb⟩ := lo_for (fun m (s : Int32 × Int32 × am_M) => g_X10_assignAll_L56 x a2 m s.1 s.2.1 s.2.2) (fun q s => s.2.1 = pI (q : Nat) ∧ s.2.2 = P ∧ ∃ b : Int, s.1 = pI b ∧ (-1 ≤ b ∧ b < q) ∧ NX σ p q b) (fun s => s.2 = P ∧ ∃ b : Int, s.1 = pI b ∧ NX σ p (σ 7).toNat b) 0 (σ 7).toNat (pI (-1), pI 0, P) ⟨rfl, rfl, -1, rfl, by omega, Or.inl ⟨rfl, fun j hj => absurd hj (by omega)⟩⟩ (by omega) (by unfold am_fu; omega) (by
    rintro m q ⟨v, w, N⟩ hq ⟨e1, e2, b, e3, hb, hN⟩
    dsimp only at e1 e2 e3
    subst e1 e2 e3
    left
    have hF := hO.2.2.2.2.2.2.1 q (by omega)
    have hd := hF.2.2.2.2.1
    have i3 : ∀ j : Nat, j < 12 → g_X10_item (pI j) (3 : Int32) N = some (pI (it σ j 3), N) := fun j hj => s_item2 hs (j := j) (w := 3) hj (by omega)
    have one : (1 : Int32) = pI 1 := rfl
    have hcond : ¬ am_g N 175 7 ≤ pI q := by
      rw [e7, pi_le (by omega) (by omega) (by omega) (by omega)]
      omega
    have hshr := mb_shr x (k := q) (by omega)
    have hp := hx q (by omega)
    have hq1 : pI (q : Int) + (1 : Int32) = pI (q + 1 : Nat) := pi_add q 1
    by_cases c : p q
    · have hbit : (x >>> (pI (q : Int) &&& 31)) &&& (1 : Int32) = (1 : Int32) := hshr.mpr (hp.mpr c)
      by_cases d : b = -1
      · refine ⟨(pI q, pI (q + 1 : Nat), N), ?_, rfl, rfl, q, rfl, by omega, NX_new hN c (fun h => by omega)⟩
        dsimp only
        rw [g_X10_assignAll_L56]
        show (if am_g N 175 7 ≤ pI q then _ else _) = _
        rw [if_neg hcond, if_pos hbit, if_pos (show pI b = (-1 : Int32) by rw [d]; rfl), hq1]
      · obtain ⟨j, rfl⟩ : ∃ j : Nat, b = j := ⟨b.toNat, by omega⟩
        have hFj := hO.2.2.2.2.2.2.1 j (by omega)
        have hdj := hFj.2.2.2.2.1
        have hst : g_X10_assignAll_L56 x a2 (m + 1) (pI j) (pI q) N = if it σ j 3 ≤ it σ q 3 then g_X10_assignAll_L56 x a2 m (pI j) (pI (q + 1 : Nat)) N else g_X10_assignAll_L56 x a2 m (pI q) (pI (q + 1 : Nat)) N := by
          rw [g_X10_assignAll_L56]
          show (if am_g N 175 7 ≤ pI q then _ else _) = _
          rw [if_neg hcond, if_pos hbit, if_neg (show ¬ (pI (j : Int) = (-1 : Int32)) from fun h => d ((pi_eq (b := -1) (by omega) (by omega) (by omega) (by omega)).mp h)), i3 q (by omega), am_b_some, i3 j (by omega), am_b_some, hq1]
          by_cases f : it σ j 3 ≤ it σ q 3
          · rw [if_pos f, if_pos (show pI (it σ j 3) ≤ pI (it σ q 3) by
              rw [pi_le (by omega) (by omega) (by omega) (by omega)]
              exact f)]
          · rw [if_neg f, if_neg (show ¬ pI (it σ j 3) ≤ pI (it σ q 3) by
              rw [pi_le (by omega) (by omega) (by omega) (by omega)]
              exact f)]
        by_cases f : it σ j 3 ≤ it σ q 3
        · rw [if_pos f] at hst
          exact ⟨(pI j, pI (q + 1 : Nat), N), hst, rfl, rfl, j, rfl, by omega, NX_old hN (by omega) (by rw [Int.toNat_natCast]; unfold rk; omega)⟩
        · rw [if_neg f] at hst
          exact ⟨(pI q, pI (q + 1 : Nat), N), hst, rfl, rfl, q, rfl, by omega, NX_new hN c (fun _ => by rw [Int.toNat_natCast]; unfold rk; omega)⟩
    · have hbit : ¬ ((x >>> (pI (q : Int) &&& 31)) &&& (1 : Int32) = (1 : Int32)) := fun h => c (hp.mp (hshr.mp h))
      refine ⟨(pI b, pI (q + 1 : Nat), N), ?_, rfl, rfl, b, rfl, by omega, NX_no hN c⟩
      dsimp only
      rw [g_X10_assignAll_L56]
      show (if am_g N 175 7 ≤ pI q then _ else _) = _
      rw [if_neg hcond, if_neg hbit, hq1]) (by
    rintro m ⟨v, w, N⟩ ⟨e1, e2, b, e3, hb, hN⟩
    dsimp only at e1 e2 e3
    subst e1 e2 e3
    refine ⟨(pI b, N), ?_, rfl, b, rfl, hN⟩
    dsimp only
    rw [g_X10_assignAll_L56]
    show (if am_g N 175 7 ≤ _ then _ else _) = _
    rw [if_pos (show am_g N 175 7 ≤ pI ((σ 7).toNat : Nat) by
      rw [e7, pi_le (by omega) (by omega) (by omega) (by omega)]
      omega)])
  dsimp only at g1 eN eb
  subst eN eb
  exact ⟨b, g1, hb⟩
end NXM
