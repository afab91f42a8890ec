/-! rows after a new plan -/
section QJ
theorem ro_nat (σ : Nat → Int) (o k : Nat) : ro σ o k = σ (88 + 42 * o + k) := by
  unfold ro
  rw [show (88 + 42 * (o : Int) + (k : Int)).toNat = 88 + 42 * o + k by omega]
theorem it_nat (σ : Nat → Int) (j k : Nat) : it σ j k = σ (298 + 9 * j + k) := by
  unfold it
  rw [show (298 + 9 * (j : Int) + (k : Int)).toNat = 298 + 9 * j + k by omega]
theorem ac_nat (σ : Nat → Int) (o k : Nat) : ac σ o k = σ (99 + 42 * o + k) := by
  unfold ac ro
  rw [show (88 + 42 * (o : Int) + (11 + (k : Int))).toNat = 99 + 42 * o + k by omega]
theorem sg_up {M : am_M} {k : Nat} {v : Int} (h1 : -2147483648 ≤ v) (h2 : v < 2147483648) : sg (am_s M 175 k (pI v)) = fun j => if j = k then v else sg M j := by
  funext j
  unfold sg
  rw [iv_s h1 h2]
  by_cases h : j = k
  · rw [if_pos ⟨rfl, h⟩, if_pos h]
  · rw [if_neg (fun q => h q.2), if_neg h]
def reoF (σ : Nat → Int) (r : Nat) : Nat → Int := fun k => if ro σ r 4 = -1 then σ k else if k = 92 + 42 * r then -1 else if k = 304 + 9 * (ro σ r 4).toNat then -1 else if k = 302 + 9 * (ro σ r 4).toNat then 0 else σ k
theorem s_reopens {σ : Nat → Int} {r : Nat} {M : am_M} (hs : sg M = σ) (hr : r < 5) (h4 : -1 ≤ ro σ r 4 ∧ ro σ r 4 < 12) : ∃ N, g_X10_reopens (pI r) M = some ((), N) ∧ fr [175] M N ∧ sg N = reoF σ r := by
  have g1 : g_X10_of (pI r) (4 : Int32) M = some (pI (ro σ r 4), M) := by
    rw [show (4 : Int32) = pI 4 from rfl, s_of M (by omega) (by omega), hs]
  by_cases h : ro σ r 4 = -1
  · refine ⟨M, ?_, fr_refl _ _, ?_⟩
    · unfold g_X10_reopens
      rw [g1, am_b_some, h]
      rfl
    · rw [hs]
      funext k
      unfold reoF
      rw [if_pos h]
  · obtain ⟨t, et⟩ : ∃ t : Nat, ro σ r 4 = t := ⟨(ro σ r 4).toNat, by omega⟩
    refine ⟨am_s (am_s (am_s M 175 (302 + 9 * t) (pI 0)) 175 (304 + 9 * t) (pI (-1))) 175 (92 + 42 * r) (pI (-1)), ?_, fr_trans (fr_s (by simp)) (fr_trans (fr_s (by simp)) (fr_s (by simp))), ?_⟩
    · unfold g_X10_reopens
      rw [g1, am_b_some, et]
      simp (disch := (first | omega | exact (iv_rng _ _ _).1 | exact (iv_rng _ _ _).2)) only [pi_lit, pi_nat, pi_add, pi_sub, pi_mul, pi_neg, pi_le, pi_lt, pi_eq, pi_cn, pi_ci, pi_g, am_b_some, iv_s, iv_ls, lg_s, lg_ls, if_true, if_false, Int.reduceEq, Int.reduceLT, Int.reduceLE, Int.reduceToNat, s_tset, s_rput]
      rw [if_neg (by omega)]
      rw [show (298 + 9 * (t : Int) + 4).toNat = 302 + 9 * t by omega, show (298 + 9 * (t : Int) + 6).toNat = 304 + 9 * t by omega, show (88 + 42 * (r : Int) + 4).toNat = 92 + 42 * r by omega]
    · rw [sg_up (by omega) (by omega), sg_up (by omega) (by omega), sg_up (by omega) (by omega), hs]
      funext k
      unfold reoF
      rw [if_neg h, et, Int.toNat_natCast]
def folF2 (σ : Nat → Int) (r : Nat) (α : Nat → Int) (n q : Nat) : Nat → Int := fun k => if 99 + 42 * r ≤ k ∧ k < 99 + 42 * r + q then α (k - (99 + 42 * r)) else if k = 90 + 42 * r then n else reoF σ r k
def folF (σ : Nat → Int) (r : Nat) (α : Nat → Int) (n : Nat) : Nat → Int := fun k => if 99 + 42 * r ≤ k ∧ k < 99 + 42 * r + n then α (k - (99 + 42 * r)) else if k = 90 + 42 * r then n else reoF σ r k
theorem s_follows {σ : Nat → Int} {r n : Nat} {α : Nat → Int} {M : am_M} (hs : sg M = σ) (hr : r < 5) (h4 : -1 ≤ ro σ r 4 ∧ ro σ r 4 < 12) (hn : n ≤ 30) (hm : iv M 174 15 = n) (hα : ∀ j, j < n → iv M 184 j = α j) : ∃ N, g_X10_follows (pI r) M = some ((), N) ∧ fr [175] M N ∧ sg N = folF σ r α n := by
  obtain ⟨N1, g1, f1, e1⟩ := s_reopens hs hr h4
  have hm1 : iv N1 174 15 = n := by rw [fr_i f1 (by decide)]; exact hm
  have hN2 : fr [175] M (am_s N1 175 (90 + 42 * r) (pI n)) := fr_trans f1 (fr_s (by simp))
  have hs2 : sg (am_s N1 175 (90 + 42 * r) (pI n)) = fun k => if k = 90 + 42 * r then (n : Int) else reoF σ r k := by
    rw [sg_up (by omega) (by omega), e1]
  obtain ⟨⟨u, N⟩, g2, f2, e2⟩ := lo_for (fun m (s : Int32 × am_M) => g_X10_follows_L17 (pI r) m s.1 s.2) (fun q s => s.1 = pI (q : Nat) ∧ fr [175] M s.2 ∧ sg s.2 = folF2 σ r α n q) (fun s => fr [175] M s.2 ∧ sg s.2 = folF2 σ r α n n) 0 n (pI 0, am_s N1 175 (90 + 42 * r) (pI n)) ⟨rfl, hN2, by
    rw [hs2]
    funext k
    unfold folF2
    rw [if_neg (show ¬ (99 + 42 * r ≤ k ∧ k < 99 + 42 * r + 0) by omega)]⟩ (by omega) (by unfold am_fu; omega) (by
    rintro m q ⟨b, N⟩ hq ⟨e1, hf, e⟩
    dsimp only at e1 hf e
    subst e1
    left
    have hmN : iv N 174 15 = n := by rw [fr_i hf (by decide)]; exact hm
    have hqN : iv N 184 q = α q := by rw [fr_i hf (by decide)]; exact hα q hq
    have hrng := iv_rng N 184 q
    rw [hqN] at hrng
    refine ⟨(pI (q + 1 : Nat), am_s N 175 (99 + 42 * r + q) (pI (α q))), ?_, rfl, fr_trans hf (fr_s (by simp)), ?_⟩
    · dsimp only
      rw [g_X10_follows_L17]
      have c1 : g_X10_put (pI r) ((11 : Int32) + pI (q : Nat)) (pI (α q)) N = some ((), am_s N 175 (99 + 42 * r + q) (pI (α q))) := by
        rw [show (11 : Int32) + pI (q : Nat) = pI (11 + (q : Int)) from by rw [show (11 : Int32) = pI 11 from rfl, pi_add], s_rput _ _ (by omega) (by omega), show (88 + 42 * (r : Int) + (11 + (q : Int))).toNat = 99 + 42 * r + q by omega]
      have c2 : am_g N 174 15 = pI n := by rw [pi_g, hmN]
      have c3 : am_g N 184 (pI (q : Nat)).toNatClampNeg = pI (α q) := by rw [pi_cn (by omega) (by omega), Int.toNat_natCast, pi_g, hqN]
      rw [c2, c3, c1, am_b_some]
      simp (disch := (first | omega | exact (iv_rng _ _ _).1 | exact (iv_rng _ _ _).2)) only [pi_lit, pi_nat, pi_add, pi_sub, pi_mul, pi_neg, pi_le, pi_lt, pi_eq, pi_cn, pi_ci, pi_g, am_b_some, iv_s, iv_ls, lg_s, lg_ls, if_true, if_false, Int.reduceEq, Int.reduceLT, Int.reduceLE, Int.reduceToNat]
      rw [if_neg (by omega)]
      rfl
    · dsimp only
      rw [sg_up hrng.1 hrng.2, e]
      funext k
      unfold folF2
      by_cases h1 : k = 99 + 42 * r + q
      · rw [if_pos h1, if_pos (by omega), h1, show 99 + 42 * r + q - (99 + 42 * r) = q by omega]
      · rw [if_neg h1]
        by_cases h2 : 99 + 42 * r ≤ k ∧ k < 99 + 42 * r + q
        · rw [if_pos h2, if_pos (show 99 + 42 * r ≤ k ∧ k < 99 + 42 * r + (q + 1) by omega)]
        · rw [if_neg h2, if_neg (show ¬ (99 + 42 * r ≤ k ∧ k < 99 + 42 * r + (q + 1)) by omega)]) (by
    rintro m ⟨b, N⟩ ⟨e1, hf, e⟩
    dsimp only at e1 hf e
    subst e1
    have hmN : iv N 174 15 = n := by rw [fr_i hf (by decide)]; exact hm
    refine ⟨((), N), ?_, hf, e⟩
    dsimp only
    rw [g_X10_follows_L17]
    simp (disch := (first | omega | exact (iv_rng _ _ _).1 | exact (iv_rng _ _ _).2)) only [pi_lit, pi_nat, pi_add, pi_sub, pi_mul, pi_neg, pi_le, pi_lt, pi_eq, pi_cn, pi_ci, pi_g, am_b_some, iv_s, iv_ls, lg_s, lg_ls, if_true, if_false, Int.reduceEq, Int.reduceLT, Int.reduceLE, Int.reduceToNat, hmN]
    rw [if_pos (by omega)])
  dsimp only at g2 f2 e2
  refine ⟨N, ?_, f2, e2⟩
  unfold g_X10_follows
  rw [g1, am_b_some]
  have c2 : am_g N1 174 15 = pI n := by rw [pi_g, hm1]
  rw [c2, show (2 : Int32) = pI 2 from rfl, s_rput _ _ (by omega) (by omega), am_b_some, show (88 + 42 * (r : Int) + 2).toNat = 90 + 42 * r by omega]
  exact (congrArg (fun y => am_b y _) g2).trans rfl
end QJ
