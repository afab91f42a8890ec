/-! cells that are used, ends of lifts -/
section RB2
def met (σ : Nat → Int) (c but : Int) : Prop := ∃ r : Nat, (r : Int) < σ 6 ∧ (r : Int) ≠ but ∧ ∃ t : Nat, t ≤ 30 ∧ fp σ r t = c
def endp (σ : Nat → Int) (c : Int) : Prop := ∃ k : Nat, (k : Int) < 2 * σ 1 ∧ σ (2 + k) = c
theorem b01_or {p q : Prop} (h : p) : b01 (p ∨ q) = 1 := b01_t (Or.inl h)
theorem s_isMet {σ : Nat → Int} {c but : Int} {M : am_M} (hW : WD σ 1 M) (hO : OK σ) (hc : -2 ≤ c ∧ c < 40) (hb : -1 ≤ but ∧ but < 5) : g_X8_isMet 1 (pI c) (pI but) M = some (pI (b01 (met σ c but)), M) := by
  have h6 := hO.2.2.1
  have hC := hO.1
  have c4 : am_g M 1 4 = pI (σ 0) := by rw [pi_g, hW.2.1.2.2]
  have e2 : iv M 1 2 = σ 6 := hW.2.1.1
  have inner : ∀ r : Nat, (r : Int) < σ 6 → ∃ v : Nat, g_X8_isMet_L23 1 (pI c) (pI but) (pI r) (17 + 5 * r) am_fu (pI 0) M = some (v, M) ∧ ((v = 51 ∧ (r : Int) ≠ but ∧ ∃ t : Nat, t ≤ 30 ∧ fp σ r t = c) ∨ (v = 59 ∧ ¬ ((r : Int) ≠ but ∧ ∃ t : Nat, t ≤ 30 ∧ fp σ r t = c))) := fun r hr => by
    by_cases hrb : (r : Int) = but
    · refine ⟨59, ?_, Or.inr ⟨rfl, fun q => q.1 hrb⟩⟩
      rw [show am_fu = 99999 + 1 from rfl, g_X8_isMet_L23]
      rw [if_pos (show pI (r : Nat) = pI but by rw [hrb])]
    · obtain ⟨x, g1, hx⟩ := lo_for (fun m (s : Int32 × am_M) => g_X8_isMet_L23 1 (pI c) (pI but) (pI r) (17 + 5 * r) m s.1 s.2) (fun q s => s = (pI (q : Nat), M) ∧ ∀ t : Nat, t < q → fp σ r t ≠ c) (fun x => (x = (51, M) ∧ ∃ t : Nat, t ≤ 30 ∧ fp σ r t = c) ∨ (x = (59, M) ∧ ∀ t : Nat, t ≤ 30 → fp σ r t ≠ c)) 0 31 (pI 0, M) ⟨rfl, fun t ht => by omega⟩ (by omega) (by unfold am_fu; omega) (by
        rintro m q s hq ⟨rfl, hno⟩
        have hrg := fp_rng (hO.2.2.2.2.2.1 r hr).1 q
        have g2 := s_placeW hW hO hr (t := q) (by omega)
        have hstep : g_X8_isMet_L23 1 (pI c) (pI but) (pI r) (17 + 5 * r) (m + 1) (pI (q : Nat)) M = if fp σ r q = c then some (51, M) else g_X8_isMet_L23 1 (pI c) (pI but) (pI r) (17 + 5 * r) m (pI (q + 1 : Nat)) M := by
          have c5 : am_g M 1 4 + pI (q : Nat) = pI (σ 0 + q) := by rw [c4, pi_add]
          rw [g_X8_isMet_L23, c5, g2, am_b_some]
          simp (disch := (first | omega | exact (iv_rng _ _ _).1 | exact (iv_rng _ _ _).2)) only [pi_lit, pi_nat, pi_add, pi_sub, pi_mul, pi_neg, pi_le, pi_lt, pi_eq, pi_cn, pi_ci, pi_g, am_b_some, iv_s, iv_ls, lg_s, lg_ls, if_true, if_false, Int.reduceEq, Int.reduceLT, Int.reduceLE, Int.reduceToNat]
          rw [if_neg hrb, if_neg (by omega)]
          rfl
        dsimp only
        rw [hstep]
        by_cases h : fp σ r q = c
        · right
          rw [if_pos h]
          exact ⟨_, rfl, Or.inl ⟨rfl, q, by omega, h⟩⟩
        · left
          rw [if_neg h]
          refine ⟨(pI (q + 1 : Nat), M), rfl, rfl, fun t ht => ?_⟩
          by_cases h2 : t = q
          · subst h2; exact h
          · exact hno t (by omega)) (by
        rintro m s ⟨rfl, hno⟩
        refine ⟨(59, M), ?_, Or.inr ⟨rfl, fun t ht => hno t (by omega)⟩⟩
        dsimp only
        rw [g_X8_isMet_L23]
        simp (disch := (first | omega | exact (iv_rng _ _ _).1 | exact (iv_rng _ _ _).2)) only [pi_lit, pi_nat, pi_add, pi_sub, pi_mul, pi_neg, pi_le, pi_lt, pi_eq, pi_cn, pi_ci, pi_g, am_b_some, iv_s, iv_ls, lg_s, lg_ls, if_true, if_false, Int.reduceEq, Int.reduceLT, Int.reduceLE, Int.reduceToNat]
        rw [if_neg hrb, if_pos (by omega)])
      rcases hx with ⟨rfl, h1⟩ | ⟨rfl, h1⟩
      · exact ⟨51, g1, Or.inl ⟨rfl, hrb, h1⟩⟩
      · exact ⟨59, g1, Or.inr ⟨rfl, fun ⟨_, t, t1, t2⟩ => h1 t t1 t2⟩⟩
  obtain ⟨x, g1, hx⟩ := lo_for (fun m (s : Int32 × am_M) => g_X8_isMet_L2 1 (pI c) (pI but) m s.1 s.2) (fun q s => s = (pI (q : Nat), M) ∧ ∀ r : Nat, r < q → ¬ ((r : Int) ≠ but ∧ ∃ t : Nat, t ≤ 30 ∧ fp σ r t = c)) (fun x => (x = (51, M) ∧ met σ c but) ∨ (x = (65, M) ∧ ¬ met σ c but)) 0 (σ 6).toNat (pI 0, M) ⟨rfl, fun t ht => by omega⟩ (by omega) (by unfold am_fu; omega) (by
    rintro m q s hq ⟨rfl, hno⟩
    obtain ⟨v, g2, hv⟩ := inner q (by omega)
    have hstep : g_X8_isMet_L2 1 (pI c) (pI but) (m + 1) (pI (q : Nat)) M = if v = 51 then some (51, M) else g_X8_isMet_L2 1 (pI c) (pI but) m (pI (q + 1 : Nat)) M := by
      rw [g_X8_isMet_L2, s_robotOf M (by omega), am_b_some, show 1 + 15 + 5 * q + 1 = 17 + 5 * q by omega]
      rw [if_neg (show ¬ (am_g M 1 2 ≤ pI (q : Nat)) by rw [pi_g, e2, pi_le (by omega) (by omega) (by omega) (by omega)]; omega)]
      refine (congrArg (fun z => am_b z _) g2).trans ?_
      rw [am_b_some]
      by_cases h : v = 51
      · rw [if_pos h, if_pos h]
      · rw [if_neg h, if_neg h, show (1 : Int32) = pI 1 from rfl, pi_add]; rfl
    dsimp only
    rw [hstep]
    rcases hv with ⟨rfl, h1, h2⟩ | ⟨rfl, h1⟩
    · right
      rw [if_pos rfl]
      exact ⟨_, rfl, Or.inl ⟨rfl, q, by omega, h1, h2⟩⟩
    · left
      rw [if_neg (by decide)]
      refine ⟨(pI (q + 1 : Nat), M), rfl, rfl, fun r hr => ?_⟩
      by_cases h2 : r = q
      · subst h2; exact h1
      · exact hno r (by omega)) (by
    rintro m s ⟨rfl, hno⟩
    refine ⟨(65, M), ?_, Or.inr ⟨rfl, fun ⟨r, h1, h2, h3⟩ => hno r (by omega) ⟨h2, h3⟩⟩⟩
    dsimp only
    rw [g_X8_isMet_L2]
    rw [if_pos (show am_g M 1 2 ≤ pI ((σ 6).toNat : Nat) by rw [pi_g, e2, pi_le (by omega) (by omega) (by omega) (by omega)]; omega)])
  unfold g_X8_isMet
  refine (congrArg (fun z => am_b z _) g1).trans ?_
  rcases hx with ⟨rfl, h1⟩ | ⟨rfl, h1⟩
  · rw [b01_t h1]; rfl
  · rw [b01_f h1]; rfl
theorem s_isUsed {σ : Nat → Int} {c : Int} {P : am_M} (hs : sg P = σ) (hO : OK σ) (hc : 0 ≤ c ∧ c < 40) : ∃ N, g_X10_isUsed (pI c) P = some (pI (b01 (met σ c (-1))), N) ∧ fr [180, 181] P N := by
  have h6 := hO.2.2.1
  obtain ⟨N, g3, f3, p3⟩ := s_allForeseen P (by rw [hs]; omega) (by rw [hs]; omega) (by rw [hs]; exact fun r hr => (hO.2.2.2.2.2.1 r hr).1)
  rw [hs] at p3
  have e2 : iv N 175 6 = σ 6 := by rw [fr_i f3 (by decide)]; exact congrFun hs 6
  refine ⟨N, ?_, f3⟩
  obtain ⟨x, g1, hx⟩ := lo_for (fun m (s : Int32 × Int32 × am_M) => g_X10_isUsed_L8 (pI c) m s.1 s.2.1 s.2.2) (fun q s => s = (pI (b01 (∃ k : Nat, k < q ∧ iv N 180 k = c)), pI (q : Nat), N)) (fun x => x = (pI (b01 (∃ k : Nat, k < (31 * σ 6).toNat ∧ iv N 180 k = c)), N)) 0 (31 * σ 6).toNat (pI 0, pI 0, N) (by rw [b01_f (p := ∃ k : Nat, k < 0 ∧ iv N 180 k = c) (fun ⟨k, h, _⟩ => by omega)]; rfl) (by omega) (by unfold am_fu; omega) (by
    rintro m q s hq rfl
    left
    refine ⟨_, ?_, rfl⟩
    dsimp only
    rw [g_X10_isUsed_L8]
    have e6 : am_g N 175 (6 : Int32).toNatClampNeg = pI (σ 6) := by show am_g N 175 6 = _; rw [pi_g, e2]
    have c1 : (31 : Int32) * pI (σ 6) = pI (31 * σ 6) := by rw [show (31 : Int32) = pI 31 from rfl, pi_mul]
    have c2 : pI (q : Nat) + (1 : Int32) = pI (q + 1 : Nat) := by rw [show (1 : Int32) = pI 1 from rfl, pi_add]; rfl
    rw [aci _ _ _ (by decide), e6, c1, if_neg (show ¬ (pI (31 * σ 6) ≤ pI (q : Nat)) by rw [pi_le (by omega) (by omega) (by omega) (by omega)]; omega), c2]
    by_cases h1 : ∃ k : Nat, k < q ∧ iv N 180 k = c
    · obtain ⟨k, k1, k2⟩ := h1
      rw [b01_t (p := ∃ k : Nat, k < q ∧ iv N 180 k = c) ⟨k, k1, k2⟩, if_neg ci1, b01_t (p := ∃ k : Nat, k < q + 1 ∧ iv N 180 k = c) ⟨k, by omega, k2⟩]
      rfl
    · rw [b01_f h1, if_pos ci0, pi_ci (by omega) (by omega) (by omega), pi_cn (by omega) (by omega), Int.toNat_natCast, pi_g]
      have hr := iv_rng N 180 q
      by_cases h2 : iv N 180 q = c
      · rw [if_pos (show pI (iv N 180 q) = pI c by rw [h2]), b01_t (p := ∃ k : Nat, k < q + 1 ∧ iv N 180 k = c) ⟨q, by omega, h2⟩]
        rfl
      · rw [if_neg (show ¬ (pI (iv N 180 q) = pI c) by rw [pi_eq hr.1 hr.2 (by omega) (by omega)]; exact h2), b01_f (p := ∃ k : Nat, k < q + 1 ∧ iv N 180 k = c) (fun ⟨k, k1, k2⟩ => by
          by_cases h3 : k = q
          · subst h3; exact h2 k2
          · exact h1 ⟨k, by omega, k2⟩)]
        rfl) (by
    rintro m s rfl
    refine ⟨_, ?_, rfl⟩
    dsimp only
    rw [g_X10_isUsed_L8]
    have e6 : am_g N 175 (6 : Int32).toNatClampNeg = pI (σ 6) := by show am_g N 175 6 = _; rw [pi_g, e2]
    have c1 : (31 : Int32) * pI (σ 6) = pI (31 * σ 6) := by rw [show (31 : Int32) = pI 31 from rfl, pi_mul]
    rw [aci _ _ _ (by decide), e6, c1, if_pos (show pI (31 * σ 6) ≤ pI ((31 * σ 6).toNat : Nat) by rw [pi_le (by omega) (by omega) (by omega) (by omega)]; omega)])
  have hiff : (∃ k : Nat, k < (31 * σ 6).toNat ∧ iv N 180 k = c) ↔ met σ c (-1) := by
    constructor
    · rintro ⟨k, k1, k2⟩
      have h := (p3 (k / 31) (k % 31) (by omega) (by omega)).1
      rw [show 31 * (k / 31) + k % 31 = k by omega] at h
      exact ⟨k / 31, by omega, by omega, k % 31, by omega, by rw [← h]; exact k2⟩
    · rintro ⟨r, h1, h2, t, t1, t2⟩
      have h := (p3 r t h1 (by omega)).1
      exact ⟨31 * r + t, by omega, by rw [h]; exact t2⟩
  subst hx
  unfold g_X10_isUsed
  rw [g3, am_b_some]
  refine (congrArg (fun z => am_b z _) g1).trans ?_
  rw [am_b_some, b01_iff hiff]
  exact b01_c _
theorem s_isLiftEnd {σ : Nat → Int} {c : Int} {M : am_M} (hW : WD σ 1 M) (hwl : wl σ) (hc : 0 ≤ c ∧ c < 40) : g_X1_isLiftEnd 2 (pI c) M = some (pI (b01 (endp σ c)), M) := by
  have h1 := hwl.1
  have e3 : iv M 2 3 = σ 1 := hW.1.1
  have c1 : (2 : Int32) * am_g M 2 3 = pI (2 * σ 1) := by rw [pi_g, e3, show (2 : Int32) = pI 2 from rfl, pi_mul]
  obtain ⟨x, g1, hx⟩ := lo_for (fun m (s : Int32 × am_M) => g_X1_isLiftEnd_L2 2 (pI c) m s.1 s.2) (fun q s => s = (pI (q : Nat), M) ∧ ∀ k : Nat, k < q → σ (2 + k) ≠ c) (fun x => (x = (24, M) ∧ endp σ c) ∨ (x = (32, M) ∧ ¬ endp σ c)) 0 (2 * σ 1).toNat (pI 0, M) ⟨rfl, fun t ht => by omega⟩ (by omega) (by unfold am_fu; omega) (by
    rintro m q s hq ⟨rfl, hno⟩
    have hv : iv M 5 q = σ (2 + q) := hW.1.2.1 q (by omega)
    have hr := hwl.2 q (by omega)
    have hstep : g_X1_isLiftEnd_L2 2 (pI c) (m + 1) (pI (q : Nat)) M = if σ (2 + q) = c then some (24, M) else g_X1_isLiftEnd_L2 2 (pI c) m (pI (q + 1 : Nat)) M := by
      rw [g_X1_isLiftEnd_L2, c1, if_neg (show ¬ (pI (2 * σ 1) ≤ pI (q : Nat)) by rw [pi_le (by omega) (by omega) (by omega) (by omega)]; omega), s_at1 _ _ _ (by omega) (by omega) (by omega), am_b_some, Int.toNat_natCast, show (2 + 3 : Nat) = 5 from rfl, hv, show pI (q : Nat) + (1 : Int32) = pI (q + 1 : Nat) from by rw [show (1 : Int32) = pI 1 from rfl, pi_add]; rfl]
      by_cases h : σ (2 + q) = c
      · rw [if_pos h, if_pos (show pI (σ (2 + q)) = pI c by rw [h])]
      · rw [if_neg h, if_neg (show ¬ (pI (σ (2 + q)) = pI c) by rw [pi_eq (by omega) (by omega) (by omega) (by omega)]; exact h)]
    dsimp only
    rw [hstep]
    by_cases h : σ (2 + q) = c
    · right
      rw [if_pos h]
      exact ⟨_, rfl, Or.inl ⟨rfl, q, by omega, h⟩⟩
    · left
      rw [if_neg h]
      refine ⟨(pI (q + 1 : Nat), M), rfl, rfl, fun k hk => ?_⟩
      by_cases h2 : k = q
      · subst h2; exact h
      · exact hno k (by omega)) (by
    rintro m s ⟨rfl, hno⟩
    refine ⟨(32, M), ?_, Or.inr ⟨rfl, fun ⟨k, k1, k2⟩ => hno k (by omega) k2⟩⟩
    dsimp only
    rw [g_X1_isLiftEnd_L2, c1, if_pos (show pI (2 * σ 1) ≤ pI ((2 * σ 1).toNat : Nat) by rw [pi_le (by omega) (by omega) (by omega) (by omega)]; omega)])
  unfold g_X1_isLiftEnd
  refine (congrArg (fun z => am_b z _) g1).trans ?_
  rcases hx with ⟨rfl, h2⟩ | ⟨rfl, h2⟩
  · rw [b01_t h2]; rfl
  · rw [b01_f h2]; rfl
theorem s_isEnd {σ : Nat → Int} {c : Int} {P : am_M} (hs : sg P = σ) (hwl : wl σ) (hc : 0 ≤ c ∧ c < 40) : g_X10_isEnd (pI c) P = some (pI (b01 (endp σ c)), P) := by
  have h1 := hwl.1
  have e6 : am_g P 175 (1 : Int32).toNatClampNeg = pI (σ 1) := by show am_g P 175 1 = _; rw [pi_g, show iv P 175 1 = σ 1 from congrFun hs 1]
  have c1 : (2 : Int32) * pI (σ 1) = pI (2 * σ 1) := by rw [show (2 : Int32) = pI 2 from rfl, pi_mul]
  obtain ⟨x, g1, hx⟩ := lo_for (fun m (s : Int32 × Int32 × am_M) => g_X10_isEnd_L4 (pI c) m s.1 s.2.1 s.2.2) (fun q s => s = (pI (b01 (∃ k : Nat, k < q ∧ σ (2 + k) = c)), pI (q : Nat), P)) (fun x => x = (pI (b01 (∃ k : Nat, k < (2 * σ 1).toNat ∧ σ (2 + k) = c)), P)) 0 (2 * σ 1).toNat (pI 0, pI 0, P) (by rw [b01_f (p := ∃ k : Nat, k < 0 ∧ σ (2 + k) = c) (fun ⟨k, h, _⟩ => by omega)]; rfl) (by omega) (by unfold am_fu; omega) (by
    rintro m q s hq rfl
    left
    refine ⟨_, ?_, rfl⟩
    dsimp only
    have c2 : pI (q : Nat) + (1 : Int32) = pI (q + 1 : Nat) := by rw [show (1 : Int32) = pI 1 from rfl, pi_add]; rfl
    have c3 : (2 : Int32) + pI (q : Nat) = pI (2 + (q : Int)) := by rw [show (2 : Int32) = pI 2 from rfl, pi_add]
    have hr := hwl.2 q (by omega)
    rw [g_X10_isEnd_L4, aci _ _ _ (by decide), e6, c1, if_neg (show ¬ (pI (2 * σ 1) ≤ pI (q : Nat)) by rw [pi_le (by omega) (by omega) (by omega) (by omega)]; omega), c2]
    by_cases h1 : ∃ k : Nat, k < q ∧ σ (2 + k) = c
    · obtain ⟨k, k1, k2⟩ := h1
      rw [b01_t (p := ∃ k : Nat, k < q ∧ σ (2 + k) = c) ⟨k, k1, k2⟩, if_neg ci1, b01_t (p := ∃ k : Nat, k < q + 1 ∧ σ (2 + k) = c) ⟨k, by omega, k2⟩]
      rfl
    · rw [b01_f h1, if_pos ci0, c3, pi_ci (by omega) (by omega) (by omega), pi_cn (by omega) (by omega), show (2 + (q : Int)).toNat = 2 + q by omega, pi_g, show iv P 175 (2 + q) = σ (2 + q) from congrFun hs _]
      by_cases h2 : σ (2 + q) = c
      · rw [if_pos (show pI (σ (2 + q)) = pI c by rw [h2]), b01_t (p := ∃ k : Nat, k < q + 1 ∧ σ (2 + k) = c) ⟨q, by omega, h2⟩]
        rfl
      · rw [if_neg (show ¬ (pI (σ (2 + q)) = pI c) by rw [pi_eq (by omega) (by omega) (by omega) (by omega)]; exact h2), b01_f (p := ∃ k : Nat, k < q + 1 ∧ σ (2 + k) = c) (fun ⟨k, k1, k2⟩ => by
          by_cases h3 : k = q
          · subst h3; exact h2 k2
          · exact h1 ⟨k, by omega, k2⟩)]
        rfl) (by
    rintro m s rfl
    refine ⟨_, ?_, rfl⟩
    dsimp only
    rw [g_X10_isEnd_L4, aci _ _ _ (by decide), e6, c1, if_pos (show pI (2 * σ 1) ≤ pI ((2 * σ 1).toNat : Nat) by rw [pi_le (by omega) (by omega) (by omega) (by omega)]; omega)])
  have hiff : (∃ k : Nat, k < (2 * σ 1).toNat ∧ σ (2 + k) = c) ↔ endp σ c := ⟨fun ⟨k, k1, k2⟩ => ⟨k, by omega, k2⟩, fun ⟨k, k1, k2⟩ => ⟨k, by omega, k2⟩⟩
  subst hx
  unfold g_X10_isEnd
  refine (congrArg (fun z => am_b z _) g1).trans ?_
  rw [am_b_some, b01_iff hiff]
  exact b01_c _
end RB2
