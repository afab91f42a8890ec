/-! blockers; plans that can be paid -/
section RI
def rex (σ : Nat → Int) (r wo g : Int) : Prop := ∃ e : Nat, e ≤ 30 ∧ okE σ r wo 0 (ro σ r 0) g 1 e
noncomputable def bl (σ : Nat → Int) (r : Nat) (g : Int) : Nat → Int32
  | 0 => 0
  | q + 1 => if q = r then bl σ r g q else cif (rex σ r q g) (bl σ r g q ||| ((1 : Int32) <<< (pI (q : Nat) &&& 31))) (bl σ r g q)
theorem s_blockersOf {σ : Nat → Int} {r : Nat} {g : Int} {M : am_M} (hW : WD σ 1 M) (hO : OK σ) (hr : (r : Int) < σ 6) (h3 : ro σ r 3 = 0) (hg : 0 ≤ g ∧ g < 40) : ∃ N, g_X3_blockersOf (pI r) (pI g) M = some (cif (rex σ r (-1) g) 0 (bl σ r g (σ 6).toNat), N) ∧ fr [158, 160, 162, 163, 164] M N := by
  have h6 := hO.2.2.1
  have h7 := hO.2.2.2.1
  obtain ⟨N1, f1, h1⟩ := s_hasFinalWithout hW hO hr (wo := -1) (by omega) h3 hg
  have hfW : ∀ {N : am_M}, fr [158, 160, 162, 163, 164] M N → WD σ 1 N := fun hf => WD_fr hW h6.2 h7.2 hf (by intro z z1 z2 z3; simp at z3; omega)
  unfold g_X3_blockersOf
  rcases h1 with ⟨g1, hx⟩ | ⟨g1, hx⟩
  · refine ⟨N1, ?_, f1⟩
    rw [show (-1 : Int32) = pI (-1) from rfl, g1, am_b_some, if_neg ci1, cif_t (p := rex σ r (-1) g) hx]
  · obtain ⟨⟨u, N⟩, g2, ex, f2⟩ := lo_for (fun m (s : Int32 × Int32 × am_M) => g_X3_blockersOf_L17 (pI r) (pI g) m s.1 s.2.1 s.2.2) (fun q s => s.1 = bl σ r g q ∧ s.2.1 = pI (q : Nat) ∧ fr [158, 160, 162, 163, 164] M s.2.2) (fun s => s.1 = bl σ r g (σ 6).toNat ∧ fr [158, 160, 162, 163, 164] M s.2) 0 (σ 6).toNat (0, pI 0, N1) ⟨rfl, rfl, f1⟩ (by omega) (by unfold am_fu; omega) (by
      rintro m q ⟨v, b, N⟩ hq ⟨e1, e2, hf⟩
      dsimp only at e1 e2 hf
      subst e1 e2
      left
      have hWN := hfW hf
      have c2 : am_g N 1 2 = pI (σ 6) := by rw [pi_g, hWN.2.1.1]
      have c3 : pI (q : Nat) + (1 : Int32) = pI (q + 1 : Nat) := by rw [show (1 : Int32) = pI 1 from rfl, pi_add]; rfl
      by_cases hqr : q = r
      · refine ⟨(bl σ r g (q + 1), pI (q + 1 : Nat), N), ?_, rfl, rfl, hf⟩
        dsimp only
        rw [g_X3_blockersOf_L17, c2, if_neg (show ¬ (pI (σ 6) ≤ pI (q : Nat)) by rw [pi_le (by omega) (by omega) (by omega) (by omega)]; omega), if_pos (show pI (q : Nat) = pI (r : Nat) by rw [hqr]), c3, bl, if_pos hqr]
      · obtain ⟨O, fO, h2⟩ := s_hasFinalWithout (M := N) hWN hO hr (wo := (q : Int)) (by omega) h3 hg
        refine ⟨(bl σ r g (q + 1), pI (q + 1 : Nat), O), ?_, rfl, rfl, fr_trans hf fO⟩
        dsimp only
        rw [g_X3_blockersOf_L17, c2, if_neg (show ¬ (pI (σ 6) ≤ pI (q : Nat)) by rw [pi_le (by omega) (by omega) (by omega) (by omega)]; omega), if_neg (show ¬ (pI (q : Nat) = pI (r : Nat)) by rw [pi_eq (by omega) (by omega) (by omega) (by omega)]; omega), c3, bl, if_neg hqr]
        rcases h2 with ⟨g3, h4⟩ | ⟨g3, h4⟩
        · rw [g3, am_b_some, if_neg ci1, cif_t (p := rex σ r q g) h4]
        · rw [g3, am_b_some, if_pos ci0, cif_f (p := rex σ r q g) (fun ⟨e, e1, e2⟩ => h4 e e1 e2)]) (by
      rintro m ⟨v, b, N⟩ ⟨e1, e2, hf⟩
      dsimp only at e1 e2 hf
      subst e1 e2
      have hWN := hfW hf
      refine ⟨(bl σ r g (σ 6).toNat, N), ?_, rfl, hf⟩
      dsimp only
      rw [g_X3_blockersOf_L17]
      rw [if_pos (show am_g N 1 2 ≤ pI ((σ 6).toNat : Nat) by rw [pi_g, hWN.2.1.1, pi_le (by omega) (by omega) (by omega) (by omega)]; omega)])
    dsimp only at g2 ex f2
    subst ex
    refine ⟨N, ?_, f2⟩
    rw [show (-1 : Int32) = pI (-1) from rfl, g1, am_b_some, if_pos ci0, cif_f (p := rex σ r (-1) g) (fun ⟨e, e1, e2⟩ => hx e e1 e2)]
    exact (congrArg (fun z => am_b z _) g2).trans rfl
theorem s_mblockers {σ : Nat → Int} {r : Nat} {g : Int} {P : am_M} (hs : sg P = σ) (hO : OK σ) (h11 : iv P 174 11 = -1) (hr : (r : Int) < σ 6) (h3 : ro σ r 3 = 0) (hg : 0 ≤ g ∧ g < 40) : ∃ Q, g_X10_blockers (pI r) (pI g) P = some (cif (rex σ r (-1) g) 0 (bl σ r g (σ 6).toNat), Q) ∧ fr [174, 180, 181, 182, 183, 184] P Q ∧ iv Q 174 0 = 0 ∧ ∀ k, k ≠ 0 → k ≠ 15 → k ≠ 16 → k ≠ 17 → iv Q 174 k = iv P 174 k := by
  have h6 := hO.2.2.1
  have hs0 : sg (am_s P 174 0 (pI 0)) = σ := sg_t.trans hs
  obtain ⟨N, f1, k1, h1⟩ := s_mfinal (r := r) (g := g) (wo := -1) hs0 hO (by rw [iv_b (by decide)]; exact h11) hr hg
  have f01 : fr [174, 180, 181, 182, 183, 184] P N := fr_trans (N := am_s P 174 0 (pI 0)) (fr_s (by simp)) f1
  have hst : g_X10_blockers (pI r) (pI g) P = am_b (g_X10_hasRoute (pI r) (pI g) (am_s P 174 0 (pI 0))) (fun v15 M14 => (if v15 = (0 : Int32) then (am_b (g_X10_blockers_L50 (pI r) (pI g) am_fu (0 : Int32) (0 : Int32) M14) (fun x23 M24 => (some (x23, (am_s M24 174 11 (-1 : Int32)))))) else (some ((0 : Int32), M14)))) := by
    unfold g_X10_blockers
    rw [show am_s P 174 0 (0 : Int32) = am_s P 174 0 (pI 0) from rfl, mrob_t hs0 hO ⟨by omega, hr⟩, am_b_some, if_neg ci1, mcell_t hg, am_b_some, if_neg ci1, mlift_f hs0 (by omega) (by omega), am_b_some, if_pos ci0]
  rw [hst]
  rcases h1 with ⟨α, n, g1, hx, _⟩ | ⟨g1, hx⟩
  · obtain ⟨e, e1, e2, e3⟩ := rtg_ok hx
    refine ⟨N, ?_, f01, by rw [k1 0 (by omega) (by omega) (by omega), iv_a (by omega) (by omega)], fun k q0 q1 q2 q3 => by rw [k1 k q1 q2 q3, iv_b q0]⟩
    rw [g1, am_b_some, if_neg ci1, cif_t (p := rex σ r (-1) g) ⟨e, e2, e3⟩]
  · obtain ⟨⟨u, R⟩, g2, ex, f2, t2, k2⟩ := lo_for (fun m (s : Int32 × Int32 × am_M) => g_X10_blockers_L50 (pI r) (pI g) m s.1 s.2.1 s.2.2) (fun q s => s.1 = bl σ r g q ∧ s.2.1 = pI (q : Nat) ∧ fr [174, 180, 181, 182, 183, 184] P s.2.2 ∧ iv s.2.2 174 0 = 0 ∧ ∀ k, k ≠ 0 → k ≠ 11 → k ≠ 15 → k ≠ 16 → k ≠ 17 → iv s.2.2 174 k = iv P 174 k) (fun s => s.1 = bl σ r g (σ 6).toNat ∧ fr [174, 180, 181, 182, 183, 184] P s.2 ∧ iv s.2 174 0 = 0 ∧ ∀ k, k ≠ 0 → k ≠ 11 → k ≠ 15 → k ≠ 16 → k ≠ 17 → iv s.2 174 k = iv P 174 k) 0 (σ 6).toNat (0, pI 0, N) ⟨rfl, rfl, f01, by rw [k1 0 (by omega) (by omega) (by omega), iv_a (by omega) (by omega)], fun k q0 q11 q1 q2 q3 => by rw [k1 k q1 q2 q3, iv_b q0]⟩ (by omega) (by unfold am_fu; omega) (by
      rintro m q ⟨v, b, R⟩ hq ⟨e1, e2, hf, ht, hk⟩
      dsimp only at e1 e2 hf ht hk
      subst e1 e2
      left
      have hsR : sg R = σ := (sg_fr hf (by decide)).trans hs
      have c2 : am_g R 175 (6 : Int32).toNatClampNeg = pI (σ 6) := by show am_g R 175 6 = _; rw [pi_g, show iv R 175 6 = σ 6 from congrFun hsR 6]
      have c3 : pI (q : Nat) + (1 : Int32) = pI (q + 1 : Nat) := by rw [show (1 : Int32) = pI 1 from rfl, pi_add]; rfl
      by_cases hqr : q = r
      · refine ⟨(bl σ r g (q + 1), pI (q + 1 : Nat), R), ?_, rfl, rfl, hf, ht, hk⟩
        dsimp only
        rw [g_X10_blockers_L50, aci _ _ _ (by decide), c2, if_neg (show ¬ (pI (σ 6) ≤ pI (q : Nat)) by rw [pi_le (by omega) (by omega) (by omega) (by omega)]; omega), if_pos (show pI (q : Nat) = pI (r : Nat) by rw [hqr]), c3, bl, if_pos hqr]
      · obtain ⟨O, fO, kO, h2⟩ := s_mfinal (r := r) (g := g) (wo := (q : Int)) (M := am_s R 174 11 (pI (q : Nat))) ((sg_s (by decide)).trans hsR) hO (iv_a (by omega) (by omega)) hr hg
        refine ⟨(bl σ r g (q + 1), pI (q + 1 : Nat), O), ?_, rfl, rfl, fr_trans hf (fr_trans (N := am_s R 174 11 (pI (q : Nat))) (fr_s (by simp)) fO), by rw [kO 0 (by omega) (by omega) (by omega), iv_b (by decide)]; exact ht, fun k q0 q11 q1 q2 q3 => by rw [kO k q1 q2 q3, iv_b q11]; exact hk k q0 q11 q1 q2 q3⟩
        dsimp only
        rw [g_X10_blockers_L50, aci _ _ _ (by decide), c2, if_neg (show ¬ (pI (σ 6) ≤ pI (q : Nat)) by rw [pi_le (by omega) (by omega) (by omega) (by omega)]; omega), if_neg (show ¬ (pI (q : Nat) = pI (r : Nat)) by rw [pi_eq (by omega) (by omega) (by omega) (by omega)]; omega), c3, bl, if_neg hqr]
        rcases h2 with ⟨α, n, g3, h4, _⟩ | ⟨g3, h4⟩
        · obtain ⟨e, e1, e2, e3⟩ := rtg_ok h4
          rw [g3, am_b_some, if_neg ci1, cif_t (p := rex σ r q g) ⟨e, e2, e3⟩]
        · rw [g3, am_b_some, if_pos ci0, cif_f (p := rex σ r q g) (fun ⟨e, e1, e2⟩ => h4 e e1 e2), Int32.or_zero]) (by
      rintro m ⟨v, b, R⟩ ⟨e1, e2, hf, ht, hk⟩
      dsimp only at e1 e2 hf ht hk
      subst e1 e2
      have hsR : sg R = σ := (sg_fr hf (by decide)).trans hs
      have c2 : am_g R 175 (6 : Int32).toNatClampNeg = pI (σ 6) := by show am_g R 175 6 = _; rw [pi_g, show iv R 175 6 = σ 6 from congrFun hsR 6]
      refine ⟨(bl σ r g (σ 6).toNat, R), ?_, rfl, hf, ht, hk⟩
      dsimp only
      rw [g_X10_blockers_L50, aci _ _ _ (by decide), c2, if_pos (show pI (σ 6) ≤ pI ((σ 6).toNat : Nat) by rw [pi_le (by omega) (by omega) (by omega) (by omega)]; omega)])
    dsimp only at g2 ex f2 t2 k2
    subst ex
    refine ⟨am_s R 174 11 (pI (-1)), ?_, fr_trans f2 (fr_s (by simp)), by rw [iv_b (by decide)]; exact t2, fun k q0 q1 q2 q3 => ?_⟩
    · rw [g1, am_b_some, if_pos ci0, cif_f (p := rex σ r (-1) g) (fun ⟨e, e1, e2⟩ => hx e e1 e2)]
      exact (congrArg (fun z => am_b z _) g2).trans rfl
    · by_cases q11 : k = 11
      · rw [q11, iv_a (by omega) (by omega), h11]
      · rw [iv_b q11, k2 k q0 q11 q1 q2 q3]
theorem cs_blockers {M : am_M} (hI : INV M) (a b : Int32) : CS (g_L_blockers a b M) (g_X10_blockers a b) := by
  obtain ⟨x, rfl, hx1, hx2⟩ := pi_cast a
  obtain ⟨y, rfl, hy1, hy2⟩ := pi_cast b
  have hO := hI.1
  have hW := hI.2.1
  have h6 := hO.2.2.1
  have g0 := s_demandRobot (x := x) (M := M) hx1 hx2
  rw [hW.2.1.1] at g0
  have g1 := s_demandCell (x := y) (M := M) hy1 hy2
  by_cases c : 0 ≤ x ∧ x < sg M 6
  · rw [if_pos c] at g0
    by_cases d : 0 ≤ y ∧ y < 40
    · rw [if_pos d] at g1
      obtain ⟨r, rfl⟩ : ∃ r : Nat, x = r := ⟨x.toNat, by omega⟩
      have hr5 : r < 5 := by omega
      have gl := s_isInLift hW hO c.2
      by_cases hl : 0 < ro (sg M) r 3
      · rw [if_pos hl] at gl
        refine CS_read (v := 0) hI ?_ ?_
        · unfold g_L_blockers g_X9_blockers
          rw [g0, am_bx_inl, g1, am_bx_inl, gl, am_b_some, if_neg ci1]
          rfl
        · intro P hP
          have hs : sg (am_s P 174 0 (pI 0)) = sg M := sg_t.trans hP
          unfold g_X10_blockers
          rw [show am_s P 174 0 (0 : Int32) = am_s P 174 0 (pI 0) from rfl, mrob_t hs hO c, am_b_some, if_neg ci1, mcell_t d, am_b_some, if_neg ci1, mlift_t hs hr5 hl, am_b_some, if_neg ci1]
      · rw [if_neg hl] at gl
        have h3 : ro (sg M) r 3 = 0 := by have := (hO.2.2.2.2.2.1 r c.2).1.2.2.2.1; omega
        obtain ⟨N, g2, f2⟩ := s_blockersOf hW hO c.2 h3 d
        obtain ⟨v, ev⟩ : ∃ v, v = cif (rex (sg M) r (-1) y) 0 (bl (sg M) r y (sg M 6).toNat) := ⟨_, rfl⟩
        rw [← ev] at g2
        have hIN := INV_fr hI f2 (by decide)
        have hsN : sg N = sg M := sg_fr f2 (by decide)
        obtain ⟨Q, g3, f3, t3, k3⟩ := s_mblockers (P := am_ls N 186 0 v.toInt64) (σ := sg M) hsN hO hIN.2.2.1 c.2 h3 d
        rw [← ev] at g3
        refine CS_yes (O := N) (v := v) (Q := Q) ?_ g3 t3 (fr_l f3 (by decide) 0) (INV_scr (INV_out hIN 0 v.toInt64) f3 (by decide) (fun k hk => k3 k (by omega) (by omega) (by omega) (by omega)))
        unfold g_L_blockers g_X9_blockers
        rw [g0, am_bx_inl, g1, am_bx_inl, gl, am_b_some, if_pos ci0, g2, am_b_some]
        rfl
    · rw [if_neg d] at g1
      refine CS_no1 (k := 1) (v := 0) hI ?_ ?_ (by omega)
      · unfold g_L_blockers g_X9_blockers
        rw [g0, am_bx_inl, g1, am_bx_inr]
        rfl
      · unfold g_X10_blockers
        rw [show am_s M 174 0 (0 : Int32) = am_s M 174 0 (pI 0) from rfl, mrob_t (σ := sg M) sg_t hO c, am_b_some, if_neg ci1, mcell_f hy1 hy2 d, am_b_some, if_pos ci0]
        rfl
  · rw [if_neg c] at g0
    refine CS_no1 (k := 1) (v := 0) hI ?_ ?_ (by omega)
    · unfold g_L_blockers g_X9_blockers
      rw [g0, am_bx_inr]
      rfl
    · unfold g_X10_blockers
      rw [mrob_f (σ := sg M) sg_t hO hx1 hx2 c, am_b_some, if_pos ci0]
      rfl
end RI
