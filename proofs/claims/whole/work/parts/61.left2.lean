/-! what is left of a plan, by the class -/
section QU
theorem tk_if (a : Int) : (if a < 5 then (1 : Int) else 3) = tk a := rfl
theorem cst_if (a : Int) : (if a < 5 then (if a = 0 then (0 : Int) else 1) else 2) = cst a := rfl
theorem lt_one (α : Nat → Int) {k : Nat} (hk : 1 ≤ k) : (tk (α 0) : Int) ≤ lt α k := by
  have h1 := lt_mono α hk
  have h2 : lt α 1 = 0 + (tk (α 0)).toNat := rfl
  have := tk_pos (α 0)
  omega
theorem s_costLeft {σ : Nat → Int} {r : Int} {p : Nat} {C : Int} {M : am_M} (h : PR σ r p C M) (hw : wr σ r) (hC : C ≤ 1000) : g_X2_costLeft p (pI C) M = some (pI (csm σ r (if 0 < ro σ r 3 then 1 else 0) (ro σ r 2).toNat), M) := by
  obtain ⟨s1, s2, s3, s4⟩ := PR_S h hw
  obtain ⟨b, n, u, e1, e2, e3, e4, e5, e6, e7, e8, e9, e10, e11⟩ := pr_open h hw
  rw [e1, e2, show ((n : Nat) : Int).toNat = n by omega]
  obtain ⟨k0, ek0⟩ : ∃ k0 : Nat, k0 = if 0 < (u : Int) then 1 else 0 := ⟨_, rfl⟩
  rw [← ek0]
  obtain ⟨s, g1, x1⟩ := lo_for (fun m (s : Int32 × Int32 × am_M) => g_X2_costLeft_L4 p (pI C) m s.1 s.2.1 s.2.2) (fun i s => i ≤ b + lt (al σ r) n ∧ ∃ v : Int, s = (pI v, pI (i : Nat), M) ∧ ((i < b ∧ v = 0) ∨ ∃ k j, at_ (al σ r) b n i k j ∧ v = csm σ r k0 (if j = 0 then k else k + 1))) (fun s => s = (pI (csm σ r k0 n), M)) 0 (b + lt (al σ r) n) (pI 0, pI 0, M) ⟨by omega, 0, rfl, by
    by_cases hb : 0 < b
    · exact Or.inl ⟨hb, rfl⟩
    · refine Or.inr ⟨0, 0, ⟨by omega, by show 0 = b + 0 + 0; omega, fun _ => by have := tk_pos (al σ r 0); omega, fun _ => rfl⟩, ?_⟩
      rw [if_pos rfl]
      rfl⟩ (by omega) (by unfold am_fu; omega) (by
    rintro m i s hi ⟨hi0, v, rfl, hv⟩
    left
    have hP := iv_rng M (p + 2) i
    have hA := iv_rng M (p + 1) i
    have hvr : 0 ≤ v ∧ v ≤ 100 := by
      rcases hv with ⟨_, rfl⟩ | ⟨k, j, ha, rfl⟩
      · omega
      · have hln := lt_ge (al σ r) n
        have h1 := ha.1
        have h2 := ha.2.2.2
        have hidx : (if j = 0 then k else k + 1) ≤ n := by split <;> omega
        have := csm_rng σ r k0 (if j = 0 then k else k + 1)
        omega
    have hstep : g_X2_costLeft_L4 p (pI C) (m + 1) (pI v) (pI (i : Nat)) M = g_X2_costLeft_L4 p (pI C) m (pI (if 0 ≤ iv M (p + 2) i ∧ ¬ (iv M p 2 + i < C) then v + cst (iv M (p + 1) i) else v)) (pI (i + 1 : Nat)) M := by
      rw [g_X2_costLeft_L4]
      unfold g_X2_isBegin
      simp (disch := (first | omega | exact (iv_rng _ _ _).1 | exact (iv_rng _ _ _).2)) only [pi_lit, pi_nat, pi_add, pi_sub, pi_mul, pi_neg, pi_le, pi_lt, pi_eq, pi_cn, pi_ci, pi_g, am_b_some, iv_s, iv_ls, lg_s, lg_ls, if_true, if_false, Int.reduceEq, Int.reduceLT, Int.reduceLE, Int.reduceToNat, s_at1, Int.toNat_natCast]
      rw [if_neg (by omega)]
      by_cases c1 : iv M (p + 2) i < 0
      · rw [if_pos c1, am_b_some, if_pos rfl, if_neg (by omega)]
        rfl
      · rw [if_neg c1, am_b_some, if_neg cp1]
        simp (disch := (first | omega | exact (iv_rng _ _ _).1 | exact (iv_rng _ _ _).2)) only [pi_lit, pi_nat, pi_add, pi_sub, pi_mul, pi_neg, pi_le, pi_lt, pi_eq, pi_cn, pi_ci, pi_g, am_b_some, iv_s, iv_ls, lg_s, lg_ls]
        by_cases c2 : iv M p 2 + i < C
        · rw [if_pos c2, if_neg (fun q => q.2 c2)]
          rfl
        · rw [if_neg c2, if_pos ⟨by omega, c2⟩]
          simp (disch := (first | omega | exact (iv_rng _ _ _).1 | exact (iv_rng _ _ _).2)) only [pi_lit, pi_nat, pi_add, pi_sub, pi_mul, pi_neg, pi_le, pi_lt, pi_eq, pi_cn, pi_ci, pi_g, am_b_some, iv_s, iv_ls, lg_s, lg_ls, if_true, if_false, Int.reduceEq, Int.reduceLT, Int.reduceLE, Int.reduceToNat, s_at1, Int.toNat_natCast, s_costOf]
          rfl
    dsimp only
    rw [hstep]
    refine ⟨_, rfl, by omega, _, rfl, ?_⟩
    rcases hv with ⟨hib, rfl⟩ | ⟨k, j, ha, rfl⟩
    · have hS : iv M p 2 + i < C := by
        by_cases hn : 0 < n
        · have := e8 hn; omega
        · have := e9 (by omega); omega
      rw [if_neg (fun q => q.2 hS)]
      by_cases hb2 : i + 1 < b
      · exact Or.inl ⟨hb2, rfl⟩
      · refine Or.inr ⟨0, 0, ⟨by omega, by show i + 1 = b + 0 + 0; omega, fun _ => by have := tk_pos (al σ r 0); omega, fun _ => rfl⟩, ?_⟩
        rw [if_pos rfl]
        rfl
    · have hkn : k < n := by
        by_cases hk : k < n
        · exact hk
        · have h1 := ha.1
          have h2 := ha.2.1
          have : k = n := by omega
          subst this
          have := ha.2.2.2 rfl
          omega
      have hj := ha.2.2.1 hkn
      have hei := ha.2.1
      have hrow := e10 k j hkn hj
      rw [← hei] at hrow
      have hck := hw.2.2.1 k (by omega)
      have hac := hw.2.1 k (by omega)
      refine Or.inr ⟨_, _, at_succ ha hkn, ?_⟩
      rw [hrow.1, hrow.2]
      have hal : al σ r k = ac σ r k := rfl
      have hnext : (if (if (j : Int) + 1 = tk (al σ r k) then 0 else j + 1) = 0 then (if (j : Int) + 1 = tk (al σ r k) then k + 1 else k) else (if (j : Int) + 1 = tk (al σ r k) then k + 1 else k) + 1) = k + 1 := by
        by_cases c : (j : Int) + 1 = tk (al σ r k)
        · rw [if_pos c, if_pos c, if_pos rfl]
        · rw [if_neg c, if_neg c, if_neg (by omega)]
      rw [hnext]
      by_cases hj0 : j = 0
      · subst hj0
        rw [if_pos rfl, if_pos rfl, csm]
        have hcond : (0 ≤ ck σ r k ∧ ¬ (iv M p 2 + i < C)) ↔ k0 ≤ k := by
          have h8 := e8 (by omega)
          have h3 := e3 (by omega)
          have hu0 : (u : Int) < tk (al σ r 0) := h3
          by_cases hk1 : 1 ≤ k
          · have := lt_one (al σ r) hk1
            rw [ek0]
            constructor
            · intro _; split <;> omega
            · intro _; exact ⟨hck.1, by omega⟩
          · have : k = 0 := by omega
            subst this
            have e0 : lt (al σ r) 0 = 0 := rfl
            rw [ek0]
            constructor
            · rintro ⟨_, q⟩
              rw [if_neg (by omega)]
              exact Nat.le_refl _
            · intro q
              refine ⟨hck.1, ?_⟩
              split at q <;> omega
        by_cases c : k0 ≤ k
        · rw [if_pos (hcond.mpr c), if_pos c]
        · rw [if_neg (fun q => c (hcond.mp q)), if_neg c]
          omega
      · rw [if_neg hj0]
        have h5 : 5 ≤ ac σ r k := by
          by_cases h5 : ac σ r k < 5
          · have hj2 : (j : Int) < tk (ac σ r k) := hj
            rw [tk_one h5] at hj2; omega
          · omega
        rw [if_neg (by omega), if_neg hj0]) (by
    rintro m s ⟨hi0, v, rfl, hv⟩
    have hvn : v = csm σ r k0 n := by
      rcases hv with ⟨hib, rfl⟩ | ⟨k, j, ha, rfl⟩
      · omega
      · have h1 := ha.1
        have h2 := ha.2.1
        by_cases hk : k < n
        · have h3 := ha.2.2.1 hk
          have h4 := lt_mono (al σ r) (k := k + 1) (n := n) hk
          have h5 : lt (al σ r) (k + 1) = lt (al σ r) k + (tk (al σ r k)).toNat := rfl
          omega
        · have : k = n := by omega
          subst this
          rw [if_pos (ha.2.2.2 rfl)]
    subst hvn
    refine ⟨_, ?_, rfl⟩
    dsimp only
    rw [g_X2_costLeft_L4]
    simp (disch := (first | omega | exact (iv_rng _ _ _).1 | exact (iv_rng _ _ _).2)) only [pi_lit, pi_nat, pi_add, pi_sub, pi_mul, pi_neg, pi_le, pi_lt, pi_eq, pi_cn, pi_ci, pi_g, am_b_some, iv_s, iv_ls, lg_s, lg_ls, if_true, if_false, Int.reduceEq, Int.reduceLT, Int.reduceLE, Int.reduceToNat]
    rw [if_pos (by omega)])
  dsimp only at g1
  unfold g_X2_costLeft
  rw [show (0 : Int32) = pI 0 from rfl, g1, x1, am_b_some]
theorem pi_diff {y k : Int} (h1 : -2147483648 ≤ y) (h2 : y < 2147483648) (h3 : 0 ≤ k) (h4 : k < 1000) : (pI (y - k) = pI 0) ↔ y = k := by
  constructor
  · intro h
    have h5 : pI (y - k) + pI k = pI 0 + pI k := by rw [h]
    rw [pi_add, pi_add, show y - k + k = y by omega, show (0 : Int) + k = k by omega] at h5
    exact (pi_eq h1 h2 (by omega) (by omega)).mp h5
  · intro h
    rw [h, show k - k = 0 by omega]
theorem s_restAction {σ : Nat → Int} {r : Int} {p : Nat} {C y : Int} {M : am_M} (h : PR σ r p C M) (hw : wr σ r) (hC : C ≤ 1000) (hy1 : -2147483648 ≤ y) (hy2 : y < 2147483648) : g_X2_restAction p (pI C) (pI y) M = some (pI (if 0 ≤ y ∧ y < ro σ r 2 then ac σ r y else -1), M) := by
  obtain ⟨s1, s2, s3, s4⟩ := PR_S h hw
  obtain ⟨b, n, u, e1, e2, e3, e4, e5, e6, e7, e8, e9, e10, e11⟩ := pr_open h hw
  rw [e1]
  obtain ⟨x, g1, hx⟩ := lo_for (fun m (s : Int32 × Int32 × am_M) => g_X2_restAction_L5 p (pI C) m s.1 s.2.1 s.2.2) (fun i s => i ≤ b + lt (al σ r) n ∧ ∃ c : Nat, s = (pI (y - c), pI (i : Nat), M) ∧ (∀ k : Nat, k < c → y ≠ k) ∧ ((i < b ∧ c = 0) ∨ ∃ k j, at_ (al σ r) b n i k j ∧ c = (if j = 0 then k else k + 1))) (fun x => (∃ k : Nat, x = ((55, pI (ac σ r k)), M) ∧ k < n ∧ y = k) ∨ (x = ((67, 0), M) ∧ ∀ k : Nat, k < n → y ≠ k)) 0 (b + lt (al σ r) n) (pI y, pI 0, M) ⟨by omega, 0, by rw [show y - ((0 : Nat) : Int) = y by omega]; rfl, fun k hk => by omega, by
    by_cases hb : 0 < b
    · exact Or.inl ⟨hb, rfl⟩
    · refine Or.inr ⟨0, 0, ⟨by omega, by show 0 = b + 0 + 0; omega, fun _ => by have := tk_pos (al σ r 0); omega, fun _ => rfl⟩, ?_⟩
      rw [if_pos rfl]⟩ (by omega) (by unfold am_fu; omega) (by
    rintro m i s hi ⟨hi0, c, rfl, hno, hv⟩
    have hP := iv_rng M (p + 2) i
    have hA := iv_rng M (p + 1) i
    have hcr : c ≤ 31 := by
      rcases hv with ⟨_, rfl⟩ | ⟨k, j, ha, rfl⟩
      · omega
      · have hln := lt_ge (al σ r) n
        have h1 := ha.1
        split <;> omega
    have hstep : g_X2_restAction_L5 p (pI C) (m + 1) (pI (y - c)) (pI (i : Nat)) M = (if 0 ≤ iv M (p + 2) i ∧ ¬ (iv M p 2 + i + tk (iv M (p + 1) i) ≤ C) then (if y = c then some ((55, pI (iv M (p + 1) i)), M) else g_X2_restAction_L5 p (pI C) m (pI (y - (c + 1 : Nat))) (pI (i + 1 : Nat)) M) else g_X2_restAction_L5 p (pI C) m (pI (y - c)) (pI (i + 1 : Nat)) M) := by
      rw [g_X2_restAction_L5]
      unfold g_X2_isBegin
      have htp := tk_pos (iv M (p + 1) i)
      have gt : g_X9_ticksOf (pI (iv M (p + 1) i)) M = some (pI (tk (iv M (p + 1) i)), M) := s_ticksOf M hA.1 hA.2
      have c3 : (pI (y - c) = (0 : Int32)) = (y = c) := propext (pi_diff hy1 hy2 (by omega) (by omega))
      have c4 : pI (y - c) + (-1 : Int32) = pI (y - (c + 1 : Nat)) := by rw [show (-1 : Int32) = pI (-1) from rfl, pi_add, show y - (c : Int) + -1 = y - ((c + 1 : Nat) : Int) by omega]
      have c5 : pI (i : Nat) + (1 : Int32) = pI (i + 1 : Nat) := by rw [show (1 : Int32) = pI 1 from rfl, pi_add]; rfl
      have c0 : ¬ (am_g M p 3 ≤ pI (i : Nat)) := by rw [pi_g, pi_le (by omega) (by omega) (by omega) (by omega)]; omega
      rw [if_neg c0, s_at1 _ _ _ (by omega) (by omega) (by omega), am_b_some, s_at1 _ _ _ (by omega) (by omega) (by omega), am_b_some, Int.toNat_natCast]
      simp only [c3, c4, c5, gt, am_b_some]
      by_cases c1 : iv M (p + 2) i < 0
      · rw [if_pos (show pI (iv M (p + 2) i) < (0 : Int32) by show pI _ < pI 0; rw [pi_lt (by omega) (by omega) (by omega) (by omega)]; exact c1), am_b_some, if_pos rfl, if_neg (by omega)]
      · rw [if_neg (show ¬ (pI (iv M (p + 2) i) < (0 : Int32)) by show ¬ (pI _ < pI 0); rw [pi_lt (by omega) (by omega) (by omega) (by omega)]; exact c1), am_b_some, if_neg (by decide)]
        have c6 : am_g M p 2 + pI (i : Nat) + pI (tk (iv M (p + 1) i)) = pI (iv M p 2 + i + tk (iv M (p + 1) i)) := by rw [pi_g, pi_add, pi_add]
        rw [gt, am_b_some, c6]
        by_cases c2 : iv M p 2 + i + tk (iv M (p + 1) i) ≤ C
        · rw [if_pos (show pI (iv M p 2 + i + tk (iv M (p + 1) i)) ≤ pI C by rw [pi_le (by omega) (by omega) (by omega) (by omega)]; exact c2), if_neg (fun q => q.2 c2)]
        · rw [if_neg (show ¬ (pI (iv M p 2 + i + tk (iv M (p + 1) i)) ≤ pI C) by rw [pi_le (by omega) (by omega) (by omega) (by omega)]; exact c2), if_pos (show 0 ≤ iv M (p + 2) i ∧ ¬ (iv M p 2 + i + tk (iv M (p + 1) i) ≤ C) from ⟨by omega, c2⟩)]
    dsimp only
    rw [hstep]
    rcases hv with ⟨hib, rfl⟩ | ⟨k, j, ha, rfl⟩
    · have hS : 0 ≤ iv M (p + 2) i → iv M p 2 + i + tk (iv M (p + 1) i) ≤ C := fun q => by
        have h11 := e11 i hib q
        by_cases hn : 0 < n
        · have := e8 hn; omega
        · have := e9 (by omega); omega
      rw [if_neg (fun q => q.2 (hS q.1))]
      left
      refine ⟨_, rfl, by omega, 0, rfl, hno, ?_⟩
      by_cases hb2 : i + 1 < b
      · exact Or.inl ⟨hb2, rfl⟩
      · refine Or.inr ⟨0, 0, ⟨by omega, by show i + 1 = b + 0 + 0; omega, fun _ => by have := tk_pos (al σ r 0); omega, fun _ => rfl⟩, ?_⟩
        rw [if_pos rfl]
    · have hkn : k < n := by
        by_cases hk : k < n
        · exact hk
        · have h1 := ha.1
          have h2 := ha.2.1
          have : k = n := by omega
          subst this
          have := ha.2.2.2 rfl
          omega
      have hj := ha.2.2.1 hkn
      have hei := ha.2.1
      have hrow := e10 k j hkn hj
      rw [← hei] at hrow
      have hck := hw.2.2.1 k (by omega)
      have hac := hw.2.1 k (by omega)
      have hal : al σ r k = ac σ r k := rfl
      have hnext : (if (if (j : Int) + 1 = tk (al σ r k) then 0 else j + 1) = 0 then (if (j : Int) + 1 = tk (al σ r k) then k + 1 else k) else (if (j : Int) + 1 = tk (al σ r k) then k + 1 else k) + 1) = k + 1 := by
        by_cases c : (j : Int) + 1 = tk (al σ r k)
        · rw [if_pos c, if_pos c, if_pos rfl]
        · rw [if_neg c, if_neg c, if_neg (by omega)]
      rw [hrow.1, hrow.2]
      by_cases hj0 : j = 0
      · subst hj0
        rw [if_pos rfl, if_pos rfl]
        have hu0 : (u : Int) < tk (al σ r 0) := e3 (by omega)
        have h8 := e8 (by omega)
        have h1 := lt_one (al σ r) (k := k + 1) (by omega)
        have h5 : lt (al σ r) (k + 1) = lt (al σ r) k + (tk (al σ r k)).toNat := rfl
        have htp := tk_pos (al σ r k)
        rw [hal] at h5 htp
        rw [if_pos ⟨hck.1, by omega⟩]
        by_cases hyk : y = k
        · right
          rw [if_pos hyk]
          exact ⟨_, rfl, Or.inl ⟨k, rfl, hkn, hyk⟩⟩
        · left
          rw [if_neg hyk]
          refine ⟨_, rfl, by omega, k + 1, rfl, fun k' hk' => ?_, Or.inr ⟨_, _, at_succ ha hkn, hnext.symm⟩⟩
          by_cases h7 : k' = k
          · subst h7; exact hyk
          · exact hno k' (by rw [if_pos rfl]; omega)
      · have h5 : 5 ≤ ac σ r k := by
          by_cases h5 : ac σ r k < 5
          · have hj2 : (j : Int) < tk (ac σ r k) := hj
            rw [tk_one h5] at hj2; omega
          · omega
        rw [if_neg hj0, if_neg (show ¬ (0 ≤ 4 - ac σ r k ∧ ¬ (iv M p 2 + i + tk (ac σ r k) ≤ C)) by omega)]
        left
        rw [if_neg hj0] at hno ⊢
        exact ⟨_, rfl, by omega, k + 1, rfl, hno, Or.inr ⟨_, _, at_succ ha hkn, hnext.symm⟩⟩) (by
    rintro m s ⟨hi0, c, rfl, hno, hv⟩
    have hcn : c = n := by
      rcases hv with ⟨hib, rfl⟩ | ⟨k, j, ha, rfl⟩
      · omega
      · have h1 := ha.1
        have h2 := ha.2.1
        by_cases hk : k < n
        · have h3 := ha.2.2.1 hk
          have h4 := lt_mono (al σ r) (k := k + 1) (n := n) hk
          have h5 : lt (al σ r) (k + 1) = lt (al σ r) k + (tk (al σ r k)).toNat := rfl
          omega
        · have : k = n := by omega
          subst this
          rw [if_pos (ha.2.2.2 rfl)]
    subst hcn
    refine ⟨((67, 0), M), ?_, Or.inr ⟨rfl, hno⟩⟩
    dsimp only
    rw [g_X2_restAction_L5]
    rw [if_pos (show am_g M p 3 ≤ pI ((b + lt (al σ r) c : Nat) : Int) by rw [pi_g, pi_le (by omega) (by omega) (by omega) (by omega)]; omega)])
  dsimp only at g1
  unfold g_X2_restAction
  rcases hx with ⟨k, rfl, hk, rfl⟩ | ⟨rfl, hno⟩
  · rw [if_pos ⟨by omega, by omega⟩]
    exact (congrArg (fun z => am_b z _) g1).trans rfl
  · rw [if_neg (fun q => hno y.toNat (by omega) (by omega))]
    exact (congrArg (fun z => am_b z _) g1).trans rfl
end QU
