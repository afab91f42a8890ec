/-! one robot's tick in the model -/
section DOE
theorem gx_eq {M : am_M} {k : Nat} {v : Int32} : am_g (am_s M 175 k v) 175 k = v := by
  unfold am_g am_s
  dsimp only
  rw [if_pos ⟨rfl, rfl⟩]
theorem gx_ne {M : am_M} {k j : Nat} {v : Int32} (h : j ≠ k) : am_g (am_s M 175 k v) 175 j = am_g M 175 j := by
  unfold am_g am_s
  dsimp only
  rw [if_neg (fun q => h q.2)]
theorem m_of {r : Nat} {M : am_M} (w : Int32) (k : Nat) (e : w = pI (k : Nat)) (hr : r < 5) (hk : k < 42) : g_X10_of (pI r) w M = some (am_g M 175 (88 + 42 * r + k), M) := by
  subst e
  rw [s_of M (by omega) (by omega)]
  unfold ro
  rw [show (88 + 42 * (r : Int) + (k : Int)).toNat = 88 + 42 * r + k by omega, pi_g]
  rfl
theorem m_put {r : Nat} {M : am_M} {v : Int32} (w : Int32) (k : Nat) (e : w = pI (k : Nat)) (hr : r < 5) (hk : k < 42) : g_X10_put (pI r) w v M = some ((), am_s M 175 (88 + 42 * r + k) v) := by
  subst e
  rw [s_rput v M (by omega) (by omega), show (88 + 42 * (r : Int) + (k : Int)).toNat = 88 + 42 * r + k by omega]
theorem m_adds {r : Nat} {M : am_M} {v : Int32} (w : Int32) (k : Nat) (e : w = pI (k : Nat)) (hr : r < 5) (hk : k < 42) : g_X10_adds (pI r) w v M = some ((), am_s M 175 (88 + 42 * r + k) (am_g M 175 (88 + 42 * r + k) + v)) := by
  subst e
  unfold g_X10_adds
  simp (disch := (first | omega | exact (iv_rng _ _ _).1 | exact (iv_rng _ _ _).2)) only [pi_lit, pi_nat, pi_add, pi_sub, pi_mul, pi_neg, pi_le, pi_lt, pi_eq, pi_cn, pi_ci, pi_g, am_b_some, iv_s, iv_ls, lg_s, lg_ls]
  rw [show (88 + 42 * (r : Int) + (k : Int)).toNat = 88 + 42 * r + k by omega]
theorem m_ro {M : am_M} {r w : Nat} : pI (ro (sg M) r w) = am_g M 175 (88 + 42 * r + w) := by
  unfold ro
  rw [show (88 + 42 * (r : Int) + (w : Int)).toNat = 88 + 42 * r + w by omega, pi_g]
  rfl
theorem m_ro2 {M N : am_M} {r w : Nat} {v : Int} (h : am_g N 175 (88 + 42 * r + w) = pI v) (h1 : -2147483648 ≤ v) (h2 : v < 2147483648) : ro (sg N) r w = v := by
  have := sg_rng N (88 + 42 * (r : Int) + w).toNat
  exact (pi_eq this.1 this.2 h1 h2).mp ((m_ro (M := N)).trans h)
theorem m_ro3 {M N : am_M} {r w : Nat} (h : am_g N 175 (88 + 42 * r + w) = am_g M 175 (88 + 42 * r + w)) : ro (sg N) r w = ro (sg M) r w := by
  have := sg_rng M (88 + 42 * (r : Int) + w).toNat
  exact m_ro2 (M := M) (h.trans (m_ro (M := M)).symm) this.1 this.2
theorem m_sg {M N : am_M} {k : Nat} (h : am_g N 175 k = am_g M 175 k) : sg N k = sg M k := by
  exact congrArg Int32.toInt h
/-- the row's actions moved up by one -/
theorem s_shifts {P : am_M} {r n : Nat} (hr : r < 5) (hn : ro (sg P) r 2 = (n : Int) + 1) (hn2 : n < 30) : ∃ Q, g_X10_shifts (pI r) P = some ((), Q) ∧ fr [175] P Q ∧ (∀ j : Nat, j ≠ 88 + 42 * r + 2 → j ≠ 88 + 42 * r + 3 → ¬ (99 + 42 * r ≤ j ∧ j < 99 + 42 * r + n) → am_g Q 175 j = am_g P 175 j) ∧ am_g Q 175 (88 + 42 * r + 2) = pI n ∧ am_g Q 175 (88 + 42 * r + 3) = pI 0 ∧ ∀ k : Nat, k < n → am_g Q 175 (99 + 42 * r + k) = am_g P 175 (99 + 42 * r + (k + 1)) := by
  have g2 : am_g P 175 (88 + 42 * r + 2) = pI ((n : Int) + 1) := by
    rw [← hn]
    exact (m_ro (w := 2)).symm
  obtain ⟨P1, eP1⟩ : ∃ P1, P1 = am_s (am_s P 175 (88 + 42 * r + 3) (pI 0)) 175 (88 + 42 * r + 2) (pI n) := ⟨_, rfl⟩
  have hP1 : g_X10_shifts (pI r) P = am_b (g_X10_shifts_L23 (pI r) am_fu (pI 0) P1) (fun _ M18 => some ((), M18)) := by
    unfold g_X10_shifts
    rw [m_put 3 3 rfl hr (by omega), am_b_some, m_of 2 2 rfl hr (by omega), am_b_some, m_put 2 2 rfl hr (by omega), am_b_some, gx_ne (by omega), g2, show (1 : Int32) = pI 1 from rfl, pi_sub, show (n : Int) + 1 - 1 = n by omega, eP1]
    rfl
  have f1 : fr [175] P P1 := by
    rw [eP1]
    exact fr_trans (fr_s (by decide)) (fr_s (by decide))
  obtain ⟨⟨u, Q⟩, g1, e1⟩ := lo_for (fun m (s : Int32 × am_M) => g_X10_shifts_L23 (pI r) m s.1 s.2) (fun q s => s.1 = pI (q : Nat) ∧ fr [175] P s.2 ∧ (∀ j : Nat, ¬ (99 + 42 * r ≤ j ∧ j < 99 + 42 * r + q) → am_g s.2 175 j = am_g P1 175 j) ∧ ∀ k : Nat, k < q → am_g s.2 175 (99 + 42 * r + k) = am_g P 175 (99 + 42 * r + (k + 1))) (fun s => fr [175] P s.2 ∧ (∀ j : Nat, ¬ (99 + 42 * r ≤ j ∧ j < 99 + 42 * r + n) → am_g s.2 175 j = am_g P1 175 j) ∧ ∀ k : Nat, k < n → am_g s.2 175 (99 + 42 * r + k) = am_g P 175 (99 + 42 * r + (k + 1))) 0 n (pI 0, P1) ⟨rfl, f1, fun _ _ => rfl, fun _ h => absurd h (by omega)⟩ (by omega) (by unfold am_fu; omega) (by
    rintro m q ⟨b, N⟩ hq ⟨e1, f2, a1, a2⟩
    dsimp only at e1 f2 a1 a2
    subst e1
    left
    have h2 : am_g N 175 (88 + 42 * r + 2) = pI n := by
      rw [a1 _ (by omega), eP1, gx_eq]
    have h3 : g_X10_act (pI r) (pI q + (1 : Int32)) N = some (am_g P 175 (99 + 42 * r + (q + 1)), N) := by
      unfold g_X10_act
      rw [show (11 : Int32) + (pI q + (1 : Int32)) = pI ((12 + q : Nat) : Int) by
        rw [show (11 : Int32) = pI 11 from rfl, show (1 : Int32) = pI 1 from rfl, pi_add, pi_add, show 11 + ((q : Int) + 1) = ((12 + q : Nat) : Int) by omega], m_of _ (12 + q) rfl hr (by omega), am_b_some, show 88 + 42 * r + (12 + q) = 99 + 42 * r + (q + 1) by omega, a1 _ (by omega), eP1, gx_ne (by omega), gx_ne (by omega)]
    refine ⟨(pI (q + 1 : Nat), am_s N 175 (99 + 42 * r + q) (am_g P 175 (99 + 42 * r + (q + 1)))), ?_, rfl, fr_trans f2 (fr_s (by decide)), fun j hj => ?_, fun k hk => ?_⟩
    · dsimp only
      rw [g_X10_shifts_L23, m_of 2 2 rfl hr (by omega), am_b_some, h2, if_neg (show ¬ (pI n ≤ pI q) by
        rw [pi_le (by omega) (by omega) (by omega) (by omega)]
        omega), h3, am_b_some, m_put _ (11 + q) (show (11 : Int32) + pI q = pI ((11 + q : Nat) : Int) by
        rw [show (11 : Int32) = pI 11 from rfl, pi_add, show 11 + (q : Int) = ((11 + q : Nat) : Int) by omega]) hr (by omega), am_b_some, show 88 + 42 * r + (11 + q) = 99 + 42 * r + q by omega, show (1 : Int32) = pI 1 from rfl, pi_add]
      rfl
    · dsimp only
      rw [gx_ne (by omega), a1 _ (by omega)]
    · dsimp only
      by_cases hkq : k = q
      · subst hkq
        rw [gx_eq]
      · rw [gx_ne (by omega), a2 k (by omega)]) (by
    rintro m ⟨b, N⟩ ⟨e1, f2, a1, a2⟩
    dsimp only at e1 f2 a1 a2
    subst e1
    have h2 : am_g N 175 (88 + 42 * r + 2) = pI n := by
      rw [a1 _ (by omega), eP1, gx_eq]
    refine ⟨((), N), ?_, f2, a1, a2⟩
    dsimp only
    rw [g_X10_shifts_L23, m_of 2 2 rfl hr (by omega), am_b_some, h2, if_pos (show pI n ≤ pI n by
      rw [pi_le (by omega) (by omega) (by omega) (by omega)]
      omega)])
  dsimp only at g1 e1
  obtain ⟨f2, a1, a2⟩ := e1
  refine ⟨Q, by rw [hP1, g1, am_b_some], f2, fun j j2 j3 jn => ?_, ?_, ?_, a2⟩
  · rw [a1 j jn, eP1, gx_ne j2, gx_ne j3]
  · rw [a1 _ (by omega), eP1, gx_eq]
  · rw [a1 _ (by omega), eP1, gx_ne (by omega), gx_eq]
/-- the last part of a robot's tick: the action goes on or ends -/
def JX (σ τ : Nat → Int) (r : Nat) (a : Int) : Prop := if ro σ r 3 + 1 = tk a then ro τ r 0 = mvs σ (ro σ r 0) a ∧ ro τ r 3 = 0 ∧ ro τ r 2 = ro σ r 2 - 1 ∧ ∀ k : Nat, (k : Int) + 1 < ro σ r 2 → ac τ r k = ac σ r (k + 1) else ro τ r 0 = ro σ r 0 ∧ ro τ r 2 = ro σ r 2 ∧ ro τ r 3 = ro σ r 3 + 1 ∧ ∀ k : Nat, (k : Int) < ro σ r 2 → ac τ r k = ac σ r k
def JZ (r j : Nat) : Prop := j = 88 + 42 * r ∨ j = 88 + 42 * r + 2 ∨ j = 88 + 42 * r + 3 ∨ (99 + 42 * r ≤ j ∧ j < 129 + 42 * r)
theorem m_ac {M N : am_M} {r k l : Nat} (h : am_g N 175 (99 + 42 * r + k) = am_g M 175 (99 + 42 * r + l)) : ac (sg N) r k = ac (sg M) r l := by
  rw [ac_nat, ac_nat]
  exact congrArg Int32.toInt h
theorem s_J103 {P : am_M} {r : Nat} {a : Int} {w : Int32} (hr : r < 5) (hwl : wl (sg P)) (hw : w ≠ 0) (hL : 0 < ro (sg P) r 2 ∧ ro (sg P) r 2 ≤ 30) (hB : 0 ≤ ro (sg P) r 3 ∧ ro (sg P) r 3 < 3) (hA : 0 ≤ ro (sg P) r 0 ∧ ro (sg P) r 0 < 40) (ha : 0 ≤ a ∧ a < 7) : ∃ Q, g_X10_does_J103 (pI r) w (pI a) P = some ((), Q) ∧ fr [175] P Q ∧ (∀ j : Nat, ¬ JZ r j → am_g Q 175 j = am_g P 175 j) ∧ JX (sg P) (sg Q) r a := by
  obtain ⟨n, hn⟩ : ∃ n : Nat, ro (sg P) r 2 = (n : Int) + 1 := ⟨(ro (sg P) r 2 - 1).toNat, by omega⟩
  have ht := tk_pos a
  have e3 : am_g P 175 (88 + 42 * r + 3) = pI (ro (sg P) r 3) := (m_ro (w := 3)).symm
  have e0 : am_g P 175 (88 + 42 * r + 0) = pI (ro (sg P) r 0) := (m_ro (w := 0)).symm
  have e2 : am_g P 175 (88 + 42 * r + 2) = pI ((n : Int) + 1) := by
    rw [← hn]
    exact (m_ro (w := 2)).symm
  obtain ⟨P1, eP1⟩ : ∃ P1, P1 = am_s P 175 (88 + 42 * r + 3) (pI (ro (sg P) r 3 + 1)) := ⟨_, rfl⟩
  have k3 : am_g P1 175 (88 + 42 * r + 3) = pI (ro (sg P) r 3 + 1) := by rw [eP1, gx_eq]
  have k0 : am_g P1 175 (88 + 42 * r + 0) = pI (ro (sg P) r 0) := by rw [eP1, gx_ne (by omega), e0]
  have hst : g_X10_does_J103 (pI r) w (pI a) P = (if pI (ro (sg P) r 3 + 1) = pI (tk a) then (am_b (g_X10_moved (pI (ro (sg P) r 0)) (pI a) P1) (fun v27 M26 => (am_b (g_X10_put (pI r) (0 : Int32) v27 M26) (fun _ M29 => (am_b (g_X10_shifts (pI r) M29) (fun _ M31 => (some ((), M31)))))))) else some ((), P1)) := by
    unfold g_X10_does_J103
    rw [if_neg hw, m_adds 3 3 rfl hr (by omega), am_b_some, e3, show (1 : Int32) = pI 1 from rfl, pi_add, ← eP1, m_of 3 3 rfl hr (by omega), am_b_some, k3, s_takes _ (by omega) (by omega), am_b_some]
    by_cases c : pI (ro (sg P) r 3 + 1) = pI (tk a)
    · rw [if_pos c, if_pos c, m_of 0 0 rfl hr (by omega), am_b_some, k0]
    · rw [if_neg c, if_neg c]
  have s1 : ∀ k : Nat, k < 6 → sg P1 k = sg P k := fun k hk => m_sg (by rw [eP1, gx_ne (by omega)])
  have f1 : fr [175] P P1 := by rw [eP1]; exact fr_s (by decide)
  rw [hst]
  by_cases c : ro (sg P) r 3 + 1 = tk a
  · rw [if_pos (by rw [c])]
    have hm : g_X10_moved (pI (ro (sg P) r 0)) (pI a) P1 = some (pI (mvs (sg P) (ro (sg P) r 0) a), P1) := by
      rw [s_mmoved P1 hA.1 hA.2 ha.1 ha.2, mvs_congr s1 hwl]
    have hmr := mvs_rng hwl hA ha
    rw [hm, am_b_some, m_put 0 0 rfl hr (by omega), am_b_some]
    obtain ⟨P2, eP2⟩ : ∃ P2, P2 = am_s P1 175 (88 + 42 * r + 0) (pI (mvs (sg P) (ro (sg P) r 0) a)) := ⟨_, rfl⟩
    rw [← eP2]
    have l2 : ro (sg P2) r 2 = (n : Int) + 1 := m_ro2 (M := P) (w := 2) (by rw [eP2, gx_ne (by omega), eP1, gx_ne (by omega), e2]) (by omega) (by omega)
    obtain ⟨Q, g1, f2, a1, a2, a3, a4⟩ := s_shifts hr l2 (by omega)
    refine ⟨Q, by rw [g1, am_b_some], fr_trans f1 (fr_trans (by rw [eP2]; exact fr_s (by decide)) f2), fun j hj => ?_, ?_⟩
    · unfold JZ at hj
      rw [a1 j (by omega) (by omega) (by omega), eP2, gx_ne (by omega), eP1, gx_ne (by omega)]
    · unfold JX
      rw [if_pos c]
      refine ⟨?_, ?_, ?_, fun k hk => ?_⟩
      · refine m_ro2 (M := P) (w := 0) ?_ (by omega) (by omega)
        rw [a1 _ (by omega) (by omega) (by omega), eP2, gx_eq]
      · exact m_ro2 (M := P) (w := 3) a3 (by omega) (by omega)
      · rw [hn, show (n : Int) + 1 - 1 = n by omega]
        exact m_ro2 (M := P) (w := 2) a2 (by omega) (by omega)
      · rw [hn] at hk
        refine m_ac (l := k + 1) ?_
        rw [a4 k (by omega), eP2, gx_ne (by omega), eP1, gx_ne (by omega)]
  · rw [if_neg (fun q => c ((pi_eq (by omega) (by omega) (by omega) (by omega)).mp q))]
    refine ⟨P1, rfl, f1, fun j hj => ?_, ?_⟩
    · unfold JZ at hj
      rw [eP1, gx_ne (by omega)]
    · unfold JX
      rw [if_neg c]
      refine ⟨m_ro3 (w := 0) (by rw [eP1, gx_ne (by omega)]), m_ro3 (w := 2) (by rw [eP1, gx_ne (by omega)]), m_ro2 (M := P) (w := 3) k3 (by omega) (by omega), fun k hk => m_ac (by rw [eP1, gx_ne (by omega)])⟩
/-- what a wait on a charger gives -/
def gI (b : Int32) : Int32 := if (100 : Int32) - b < (5 : Int32) then (100 : Int32) - b else (5 : Int32)
theorem s_mwaits {P : am_M} {r : Nat} (hr : r < 5) (hA : 0 ≤ ro (sg P) r 0 ∧ ro (sg P) r 0 < 40) : ∃ Q, g_X10_waits (pI r) P = some ((), Q) ∧ fr [175] P Q ∧ (∀ j : Nat, j ≠ 88 + 42 * r + 7 → j ≠ 88 + 42 * r + 1 → j ≠ 88 + 42 * r + 9 → am_g Q 175 j = am_g P 175 j) ∧ am_g Q 175 (88 + 42 * r + 7) = am_g P 175 (88 + 42 * r + 7) + pI 1 ∧ am_g Q 175 (88 + 42 * r + 1) = (if sg P (8 + ro (sg P) r 0).toNat = 2 then am_g P 175 (88 + 42 * r + 1) + gI (am_g P 175 (88 + 42 * r + 1)) else am_g P 175 (88 + 42 * r + 1)) ∧ am_g Q 175 (88 + 42 * r + 9) = (if sg P (8 + ro (sg P) r 0).toNat = 2 then am_g P 175 (88 + 42 * r + 9) + gI (am_g P 175 (88 + 42 * r + 1)) else am_g P 175 (88 + 42 * r + 9)) := by
  have e0 : am_g P 175 (88 + 42 * r + 0) = pI (ro (sg P) r 0) := (m_ro (w := 0)).symm
  obtain ⟨P1, eP1⟩ : ∃ P1, P1 = am_s P 175 (88 + 42 * r + 7) (am_g P 175 (88 + 42 * r + 7) + pI 1) := ⟨_, rfl⟩
  have k0 : am_g P1 175 (88 + 42 * r + 0) = pI (ro (sg P) r 0) := by rw [eP1, gx_ne (by omega), e0]
  have kk : am_g P1 175 (8 + ro (sg P) r 0).toNat = pI (sg P (8 + ro (sg P) r 0).toNat) := by
    rw [eP1, gx_ne (by omega), pi_g]
    rfl
  have k1 : am_g P1 175 (88 + 42 * r + 1) = am_g P 175 (88 + 42 * r + 1) := by rw [eP1, gx_ne (by omega)]
  have hkr := sg_rng P (8 + ro (sg P) r 0).toNat
  have hst : g_X10_waits (pI r) P = (if pI (sg P (8 + ro (sg P) r 0).toNat) = (2 : Int32) then (am_b (g_X10_adds (pI r) (1 : Int32) (gI (am_g P 175 (88 + 42 * r + 1))) P1) (fun _ M11 => (am_b (g_X10_adds (pI r) (9 : Int32) (gI (am_g P 175 (88 + 42 * r + 1))) M11) (fun _ M13 => (some ((), M13)))))) else (some ((), P1))) := by
    unfold g_X10_waits
    rw [m_adds 7 7 rfl hr (by omega), am_b_some, show (1 : Int32) = pI 1 from rfl, ← eP1, m_of 0 0 rfl hr (by omega), am_b_some, k0, show (8 : Int32) = pI 8 from rfl, pi_add, pi_ci (by omega) (by omega) (by omega), pi_cn (by omega) (by omega), kk]
    by_cases c : pI (sg P (8 + ro (sg P) r 0).toNat) = (2 : Int32)
    · rw [if_pos c, if_pos c, show pI 1 = (1 : Int32) from rfl, m_of 1 1 rfl hr (by omega), am_b_some, k1]
      rfl
    · rw [if_neg c, if_neg c]
  have f1 : fr [175] P P1 := by rw [eP1]; exact fr_s (by decide)
  rw [hst]
  by_cases c : sg P (8 + ro (sg P) r 0).toNat = 2
  · rw [if_pos (show pI (sg P (8 + ro (sg P) r 0).toNat) = (2 : Int32) by rw [c]; rfl), m_adds 1 1 rfl hr (by omega), am_b_some, k1, m_adds 9 9 rfl hr (by omega), am_b_some]
    refine ⟨_, rfl, fr_trans f1 (fr_trans (fr_s (by decide)) (fr_s (by decide))), fun j j7 j1 j9 => ?_, ?_, ?_, ?_⟩
    · rw [gx_ne j9, gx_ne j1, eP1, gx_ne j7]
    · rw [gx_ne (by omega), gx_ne (by omega), eP1, gx_eq]
    · rw [gx_ne (by omega), gx_eq, if_pos c]
    · rw [gx_eq, gx_ne (by omega), eP1, gx_ne (by omega), if_pos c]
  · rw [if_neg (show ¬ (pI (sg P (8 + ro (sg P) r 0).toNat) = (2 : Int32)) from fun q => c ((pi_eq (b := 2) hkr.1 hkr.2 (by omega) (by omega)).mp q))]
    refine ⟨P1, rfl, f1, fun j j7 j1 j9 => by rw [eP1, gx_ne j7], by rw [eP1, gx_eq], by rw [k1, if_neg c], by rw [eP1, gx_ne (by omega), if_neg c]⟩
end DOE
