/-! the cases append, sampled, sample -/
section QY
theorem cs_append {M : am_M} (hI : INV M) (a : Int32) : CS (g_L_append a M) (g_X10_append a) := by
  obtain ⟨x, rfl, hx1, hx2⟩ := pi_cast a
  obtain ⟨t1, t2, t3⟩ := hI.2.2.2.2.2.1
  have e9 : am_g M 169 0 = pI (iv M 174 7) := by rw [pi_g, t1]
  have e7 : ∀ P, iv P 174 7 = iv M 174 7 → am_g (am_s P 174 0 (pI 0)) 174 7 = pI (iv M 174 7) := fun P hP => by rw [pi_g, iv_b (by decide), hP]
  by_cases c : 32 ≤ x ∧ x ≤ 126
  · have h9a : g_X9_append (pI x) M = (if am_g M 169 0 < (40 : Int32) then (am_b (g_X5_add (pI x) M) (fun _ M2 => (some ((.inl (am_g M2 169 0) : Int32 ⊕ Nat), M2)))) else (some ((.inr 3 : Int32 ⊕ Nat), M))) := by
      unfold g_X9_append
      rw [if_neg (show ¬ (pI x < (32 : Int32)) by show ¬ (pI x < pI 32); rw [pi_lt (by omega) (by omega) (by omega) (by omega)]; omega), if_pos (show pI x ≤ (126 : Int32) by show pI x ≤ pI 126; rw [pi_le (by omega) (by omega) (by omega) (by omega)]; omega)]
    have mi : ∀ P, g_X10_in (pI x) (32 : Int32) (126 : Int32) P = some (pI 1, P) := fun P => min_t (b := 32) (c := 126) (by omega) (by omega) (by omega) (by omega)
    by_cases d : iv M 174 7 < 40
    · obtain ⟨k, ek⟩ : ∃ k : Nat, iv M 174 7 = k := ⟨(iv M 174 7).toNat, by omega⟩
      rw [ek] at e9 e7 t1 d t2 t3
      obtain ⟨N, eN⟩ : ∃ N, N = am_s (am_s M 173 k (pI x)) 169 0 (pI ((k : Int) + 1)) := ⟨_, rfl⟩
      have fN : fr [169, 173] M N := by rw [eN]; exact fr_trans (fr_s (by simp)) (fr_s (by simp))
      obtain ⟨P, eP⟩ : ∃ P, P = am_s (am_ls N 186 0 (pI ((k : Int) + 1)).toInt64) 174 0 (pI 0) := ⟨_, rfl⟩
      obtain ⟨Q, eQ⟩ : ∃ Q, Q = am_s (am_s P 179 k (pI x)) 174 7 (pI ((k : Int) + 1)) := ⟨_, rfl⟩
      have fNP : fr [174, 186] N P := by
        rw [eP]
        exact fr_trans (N := am_ls N 186 0 (pI ((k : Int) + 1)).toInt64) (fr_ls (by simp)) (fr_s (by simp))
      have fPQ : fr [174, 179] P Q := by rw [eQ]; exact fr_trans (fr_s (by simp)) (fr_s (by simp))
      have fMQ : fr [169, 173, 174, 179, 186] M Q := fr_trans (fr_mono fN (by simp)) (fr_trans (fr_mono fNP (by simp)) (fr_mono fPQ (by simp)))
      have h174 : ∀ i, i ≠ 0 → i ≠ 7 → iv Q 174 i = iv M 174 i := fun i h0 h7 => by
        rw [eQ, iv_b h7, iv_c (by decide), eP, iv_b h0]
        show iv N 174 i = _
        exact fr_i fN (by decide) i
      have hIQ : INV Q := by
        have hsg : sg Q = sg M := sg_fr fMQ (by decide)
        have hO := hI.1
        refine ⟨by rw [hsg]; exact hO, by rw [hsg]; exact WD_fr hI.2.1 hO.2.2.1.2 hO.2.2.2.1.2 fMQ (by intro z z1 z2 z3; simp at z3; omega), ?_, ?_, ?_, ?_, ?_⟩
        · rw [h174 11 (by decide) (by decide)]; exact hI.2.2.1
        · exact SVd_fr hI.2.2.2.1 fMQ (by decide) (by decide) (by intro z z1 z2 z3; simp at z3; omega) (h174 4 (by decide) (by decide))
        · intro q hq
          rw [fr_i fMQ (a := 167) (by decide), fr_i fMQ (a := 178) (by decide)]
          rcases hI.2.2.2.2.1 q hq with b | ⟨b1, b2, b3⟩
          · exact Or.inl b
          · exact Or.inr ⟨b1, b2, fun i hi => by rw [fr_i fMQ (a := 168) (by decide), fr_i fMQ (a := 178) (by decide)]; exact b3 i hi⟩
        · have q7 : iv Q 174 7 = (k : Int) + 1 := by rw [eQ, iv_a (by omega) (by omega)]
          have q173 : ∀ i, iv Q 173 i = if i = k then x else iv M 173 i := fun i => by
            rw [fr_i fPQ (by decide), fr_i fNP (by decide), eN, iv_c (by decide), iv_s (by omega) (by omega)]
            by_cases h : i = k
            · rw [if_pos ⟨rfl, h⟩, if_pos h]
            · rw [if_neg (fun z => h z.2), if_neg h]
          have q179 : ∀ i, iv Q 179 i = if i = k then x else iv M 179 i := fun i => by
            rw [eQ, iv_c (by decide), iv_s (by omega) (by omega)]
            by_cases h : i = k
            · rw [if_pos ⟨rfl, h⟩, if_pos h]
            · rw [if_neg (fun z => h z.2), if_neg h, fr_i fNP (by decide), fr_i fN (by decide)]
          refine ⟨?_, by rw [q7]; omega, fun i hi => ?_⟩
          · rw [q7, fr_i fPQ (by decide), fr_i fNP (by decide), eN, iv_a (by omega) (by omega)]
          · rw [q7] at hi
            rw [q173, q179]
            by_cases h : i = k
            · rw [if_pos h, if_pos h]; exact ⟨rfl, c⟩
            · rw [if_neg h, if_neg h]; exact t3 i (by omega)
        · have := hI.2.2.2.2.2.2
          unfold IEr at this ⊢
          rw [h174 8 (by decide) (by decide), fr_i fMQ (a := 0) (by decide)]
          exact this
      refine CS_yes (O := N) (v := pI ((k : Int) + 1)) (Q := Q) ?_ ?_ ?_ ?_ hIQ
      · unfold g_L_append
        have c1 : g_X5_add (pI x) M = some ((), N) := by
          unfold g_X5_add
          have c2 : am_g (am_s M 173 k (pI x)) 169 0 + (1 : Int32) = pI ((k : Int) + 1) := by rw [pi_g, iv_c (by decide), t1, show (1 : Int32) = pI 1 from rfl, pi_add]
          rw [e9, s_put _ _ _ _ (by omega) (by omega) (by omega), am_b_some, Int.toNat_natCast, c2, eN]
        have c3 : am_g N 169 0 = pI ((k : Int) + 1) := by rw [pi_g, eN, iv_a (by omega) (by omega)]
        rw [h9a, e9, if_pos (show pI (k : Nat) < (40 : Int32) by show pI _ < pI 40; rw [pi_lt (by omega) (by omega) (by omega) (by omega)]; omega), c1, am_b_some, c3]
        rfl
      · unfold g_X10_append
        have c4 : am_g P 174 7 = pI (k : Nat) := by rw [eP]; exact e7 _ ((fr_i fN (by decide) 7).trans ek)
        have c5 : am_g (am_s P 179 k (pI x)) 174 7 + (1 : Int32) = pI ((k : Int) + 1) := by
          rw [pi_g, iv_c (by decide), ← pi_g, c4, show (1 : Int32) = pI 1 from rfl, pi_add]
        rw [show am_s (am_ls N 186 0 (pI ((k : Int) + 1)).toInt64) 174 0 (0 : Int32) = P from eP.symm, mi, am_b_some, if_neg ci1, c4, if_neg (show ¬ (pI (k : Nat) = (40 : Int32)) from fun q => by have := (pi_eq (a := k) (b := 40) (by omega) (by omega) (by omega) (by omega)).mp q; omega), pi_ci (by omega) (by omega) (by omega), pi_cn (by omega) (by omega), Int.toNat_natCast, c5, ← eQ, pi_g, show iv Q 174 7 = (k : Int) + 1 by rw [eQ, iv_a (by omega) (by omega)]]
      · rw [eQ, iv_b (by decide), iv_c (by decide), eP, iv_a (by omega) (by omega)]
      · rw [fr_l fPQ (by decide), eP]; rfl
    · refine CS_no1 (k := 2) (v := 0) hI ?_ ?_ (by omega)
      · unfold g_L_append
        rw [h9a, e9, if_neg (show ¬ (pI (iv M 174 7) < (40 : Int32)) by show ¬ (pI _ < pI 40); rw [pi_lt (by omega) (by omega) (by omega) (by omega)]; omega)]
        rfl
      · unfold g_X10_append
        rw [show am_s M 174 0 (0 : Int32) = am_s M 174 0 (pI 0) from rfl, mi, am_b_some, if_neg ci1, e7 M rfl, if_pos (show pI (iv M 174 7) = (40 : Int32) by rw [show iv M 174 7 = 40 by omega]; rfl)]
        rfl
  · refine CS_no1 (k := 1) (v := 0) hI ?_ ?_ (by omega)
    · unfold g_L_append g_X9_append
      simp (disch := (first | omega | exact (iv_rng _ _ _).1 | exact (iv_rng _ _ _).2)) only [pi_lit, pi_nat, pi_add, pi_sub, pi_mul, pi_neg, pi_le, pi_lt, pi_eq, pi_cn, pi_ci, pi_g, am_b_some, iv_s, iv_ls, lg_s, lg_ls, if_true, if_false, Int.reduceEq, Int.reduceLT, Int.reduceLE, Int.reduceToNat]
      by_cases e : x < 32
      · rw [if_pos e]; rfl
      · rw [if_neg e, if_neg (by omega)]; rfl
    · unfold g_X10_append
      have mi : g_X10_in (pI x) (32 : Int32) (126 : Int32) (am_s M 174 0 (pI 0)) = some (pI 0, am_s M 174 0 (pI 0)) := min_f (b := 32) (c := 126) (by omega) (by omega) (by omega) (by omega) (by omega) (by omega) c
      rw [show am_s M 174 0 (0 : Int32) = am_s M 174 0 (pI 0) from rfl, mi, am_b_some, if_pos ci0]
      rfl
end QY
