/-! the cases save, restore -/
section RT2
theorem s_msave (P : am_M) : ∃ Q, g_X10_save_L7 am_fu (0 : Int32) P = some ((), Q) ∧ fr [176] P Q ∧ ∀ k, k < 406 → iv Q 176 k = iv P 175 k := by
  obtain ⟨⟨u, Q⟩, g1, f1, p1⟩ := lo_for (fun m (s : Int32 × am_M) => g_X10_save_L7 m s.1 s.2) (fun q s => s.1 = pI (q : Nat) ∧ fr [176] P s.2 ∧ ∀ k, k < q → iv s.2 176 k = iv P 175 k) (fun s => fr [176] P s.2 ∧ ∀ k, k < 406 → iv s.2 176 k = iv P 175 k) 0 406 (pI 0, P) ⟨rfl, fr_refl _ _, fun k hk => by omega⟩ (by omega) (by unfold am_fu; omega) (by
    rintro m q ⟨b, Q⟩ hq ⟨e, hf, hp⟩
    dsimp only at e hf hp
    subst e
    left
    refine ⟨(pI (q + 1 : Nat), am_s Q 176 q (am_g Q 175 q)), ?_, rfl, fr_trans hf (fr_s (by simp)), fun k hk => ?_⟩
    · dsimp only
      rw [g_X10_save_L7, if_neg (show ¬ ((406 : Int32) ≤ pI (q : Nat)) by show ¬ (pI 406 ≤ _); rw [pi_le (by omega) (by omega) (by omega) (by omega)]; omega), pi_ci (by omega) (by omega) (by omega), pi_ci (by omega) (by omega) (by omega), pi_cn (by omega) (by omega), Int.toNat_natCast, show pI (q : Nat) + (1 : Int32) = pI (q + 1 : Nat) from by rw [show (1 : Int32) = pI 1 from rfl, pi_add]; rfl]
    · dsimp only
      by_cases h : k = q
      · rw [h, iv_aa, ← fr_i hf (show 175 ∉ [176] by decide) q]
        rfl
      · rw [iv_b h]; exact hp k (by omega)) (by
    rintro m ⟨b, Q⟩ ⟨e, hf, hp⟩
    dsimp only at e hf hp
    subst e
    refine ⟨((), Q), ?_, hf, hp⟩
    dsimp only
    rw [g_X10_save_L7]
    rfl)
  exact ⟨Q, g1, f1, p1⟩
theorem s_mrestore (P : am_M) : ∃ Q, g_X10_restore_L20 am_fu (0 : Int32) P = some ((), Q) ∧ fr [175] P Q ∧ ∀ k, k < 406 → iv Q 175 k = iv P 176 k := by
  obtain ⟨⟨u, Q⟩, g1, f1, p1⟩ := lo_for (fun m (s : Int32 × am_M) => g_X10_restore_L20 m s.1 s.2) (fun q s => s.1 = pI (q : Nat) ∧ fr [175] P s.2 ∧ ∀ k, k < q → iv s.2 175 k = iv P 176 k) (fun s => fr [175] P s.2 ∧ ∀ k, k < 406 → iv s.2 175 k = iv P 176 k) 0 406 (pI 0, P) ⟨rfl, fr_refl _ _, fun k hk => by omega⟩ (by omega) (by unfold am_fu; omega) (by
    rintro m q ⟨b, Q⟩ hq ⟨e, hf, hp⟩
    dsimp only at e hf hp
    subst e
    left
    refine ⟨(pI (q + 1 : Nat), am_s Q 175 q (am_g Q 176 q)), ?_, rfl, fr_trans hf (fr_s (by simp)), fun k hk => ?_⟩
    · dsimp only
      rw [g_X10_restore_L20, if_neg (show ¬ ((406 : Int32) ≤ pI (q : Nat)) by show ¬ (pI 406 ≤ _); rw [pi_le (by omega) (by omega) (by omega) (by omega)]; omega), pi_ci (by omega) (by omega) (by omega), pi_ci (by omega) (by omega) (by omega), pi_cn (by omega) (by omega), Int.toNat_natCast, show pI (q : Nat) + (1 : Int32) = pI (q + 1 : Nat) from by rw [show (1 : Int32) = pI 1 from rfl, pi_add]; rfl]
    · dsimp only
      by_cases h : k = q
      · rw [h, iv_aa, ← fr_i hf (show 176 ∉ [175] by decide) q]
        rfl
      · rw [iv_b h]; exact hp k (by omega)) (by
    rintro m ⟨b, Q⟩ ⟨e, hf, hp⟩
    dsimp only at e hf hp
    subst e
    refine ⟨((), Q), ?_, hf, hp⟩
    dsimp only
    rw [g_X10_restore_L20]
    rfl)
  exact ⟨Q, g1, f1, p1⟩
theorem rest_keep {M N : am_M} (h : INV M) {X : List Nat} (hf : fr X M N) (h167 : 167 ∉ X) (h168 : 168 ∉ X) (h169 : 169 ∉ X) (h173 : 173 ∉ X) (h178 : 178 ∉ X) (h179 : 179 ∉ X) (h07 : iv N 0 7 = iv M 0 7) (h7 : iv N 174 7 = iv M 174 7) (h8 : iv N 174 8 = iv M 174 8) : ISh N ∧ ITx N ∧ IEr N := by
  obtain ⟨_, _, _, _, a3, a4, a5⟩ := h
  refine ⟨fun q hq => ?_, ?_, ?_⟩
  · rw [fr_i hf h167, fr_i hf h178]
    rcases a3 q hq with b | ⟨b1, b2, b3⟩
    · exact Or.inl b
    · exact Or.inr ⟨b1, b2, fun k hk => by rw [fr_i hf h168, fr_i hf h178]; exact b3 k hk⟩
  · unfold ITx
    rw [h7, fr_i hf h169]
    exact ⟨a4.1, a4.2.1, fun k hk => by rw [fr_i hf h173, fr_i hf h179]; exact a4.2.2 k hk⟩
  · unfold IEr
    rw [h8, h07]
    exact a5
theorem cs_save {M : am_M} (hI : INV M) : CS0 (g_X9_save M) g_X10_save := by
  have hO := hI.1
  have h6 := hO.2.2.1
  have h7 := hO.2.2.2.1
  obtain ⟨N1, g1, f1, hW53⟩ := s_wcopy (w := 53) (v := 1) (by omega) (by omega) hO hI.2.1
  have hn : ∀ a, ¬ (53 ≤ a ∧ a < 105) → a ∉ RLw 53 := fun a h1 h2 => h1 ((mem_RLw (by omega)).mp h2)
  obtain ⟨N, eN⟩ : ∃ N, N = am_s N1 0 6 (pI 1) := ⟨_, rfl⟩
  have f2 : fr [0] N1 N := by rw [eN]; exact fr_s (by simp)
  obtain ⟨Q1, g3, f3, p3⟩ := s_msave (am_s N 174 0 (pI 0))
  obtain ⟨Q, eQ⟩ : ∃ Q, Q = am_s Q1 174 4 (pI 1) := ⟨_, rfl⟩
  have fNQ : fr [174, 176] N Q := by rw [eQ]; exact fr_trans (N := am_s N 174 0 (pI 0)) (fr_s (by simp)) (fr_trans (fr_mono f3 (by simp)) (fr_s (by simp)))
  have fMQ : fr (RLw 53 ++ [0, 174, 176]) M Q := fr_trans (fr_mono f1 (fun a ha => List.mem_append_left _ ha)) (fr_trans (fr_mono f2 (fun a ha => List.mem_append_right _ (by simp at ha; simp; omega))) (fr_mono fNQ (fun a ha => List.mem_append_right _ (by simp at ha; simp; omega))))
  have hn2 : ∀ a, ¬ (53 ≤ a ∧ a < 105) → a ≠ 0 → a ≠ 174 → a ≠ 176 → a ∉ RLw 53 ++ [0, 174, 176] := fun a h1 h2 h3 h4 h => by
    rcases List.mem_append.mp h with q | q
    · exact hn a h1 q
    · simp at q; omega
  have hsQ : sg Q = sg M := sg_fr fMQ (hn2 175 (by omega) (by omega) (by omega) (by omega))
  have h174 : ∀ k, k ≠ 0 → k ≠ 4 → iv Q 174 k = iv M 174 k := fun k a1 a2 => by
    rw [eQ, iv_b a2, fr_i f3 (by decide), iv_b a1, fr_i f2 (by decide), fr_i f1 (hn 174 (by omega))]
  have h00 : ∀ k, iv Q 0 k = if k = 6 then 1 else iv M 0 k := fun k => by
    rw [fr_i fNQ (by decide), eN, iv_s (by omega) (by omega)]
    by_cases h : k = 6
    · rw [if_pos ⟨rfl, h⟩, if_pos h]
    · rw [if_neg (fun z => h z.2), if_neg h, fr_i f1 (hn 0 (by omega))]
  have h176 : ∀ k, k < 406 → iv Q 176 k = sg M k := fun k hk => by
    rw [eQ, iv_c (by decide), p3 k hk, iv_c (by decide), fr_i f2 (by decide), fr_i f1 (hn 175 (by omega))]
    rfl
  refine ⟨pI (sg M 0), N, Q, ?_, ?_, by rw [hsQ]; exact hO, ?_, ?_, ?_, ?_⟩
  · unfold g_X9_save
    rw [g1, am_b_some, show am_s N1 0 6 (1 : Int32) = N from eN.symm, pi_g, fr_i f2 (by decide), fr_i f1 (hn 1 (by omega)), hI.2.1.2.1.2.2]
  · unfold g_X10_save
    rw [show am_s N 174 0 (0 : Int32) = am_s N 174 0 (pI 0) from rfl, g3, am_b_some, aci _ _ _ (by decide), show am_s Q1 174 4 (1 : Int32) = Q from eQ.symm]
    show some (am_g Q 175 0, Q) = _
    rw [pi_g, show iv Q 175 0 = sg M 0 from congrFun hsQ 0]
  · rw [hsQ]
    exact WD_fr hI.2.1 h6.2 h7.2 fMQ (fun a b1 b2 => hn2 a (by omega) (by omega) (by omega) (by omega))
  · rw [h174 11 (by omega) (by omega)]; exact hI.2.2.1
  · refine Or.inr ⟨by rw [h00, if_pos rfl], by rw [eQ, iv_a (by omega) (by omega)], OK_agree h176 hO, ?_⟩
    refine WD_agree h176 hO (WD_fr hW53 h6.2 h7.2 (fr_trans (fr_mono f2 (Y := [0, 174, 176]) (by simp)) (fr_mono fNQ (by simp))) (by intro z z1 z2 z3; simp at z3; omega))
  · exact rest_keep hI fMQ (hn2 _ (by omega) (by omega) (by omega) (by omega)) (hn2 _ (by omega) (by omega) (by omega) (by omega)) (hn2 _ (by omega) (by omega) (by omega) (by omega)) (hn2 _ (by omega) (by omega) (by omega) (by omega)) (hn2 _ (by omega) (by omega) (by omega) (by omega)) (hn2 _ (by omega) (by omega) (by omega) (by omega)) (by rw [h00, if_neg (by omega)]) (h174 7 (by omega) (by omega)) (h174 8 (by omega) (by omega))
theorem cs_restore {M : am_M} (hI : INV M) : CS (g_L_restore M) g_X10_restore := by
  have hO := hI.1
  rcases hI.2.2.2.1 with ⟨a1, a2⟩ | ⟨a1, a2, a3, a4⟩
  · refine CS_no1 (k := 1) (v := 0) hI ?_ ?_ (by omega)
    · unfold g_L_restore g_X9_restore
      rw [if_pos (show am_g M 0 6 = (0 : Int32) by rw [pi_g, a1]; rfl)]
      rfl
    · unfold g_X10_restore
      rw [if_pos (show am_g (am_s M 174 0 (0 : Int32)) 174 4 = (0 : Int32) by
        rw [show (0 : Int32) = pI 0 from rfl, pi_g, iv_b (by decide), a2])]
      rfl
  · have h6 := a3.2.2.1
    have h7 := a3.2.2.2.1
    obtain ⟨N, g1, f1, hW1⟩ := s_wcopy (w := 1) (v := 53) (by omega) (by omega) a3 a4
    have hn : ∀ a, ¬ (1 ≤ a ∧ a < 53) → a ∉ RLw 1 := fun a h1 h2 => h1 ((mem_RLw (by omega)).mp h2)
    obtain ⟨v, ev⟩ : ∃ v, v = iv M 176 0 := ⟨_, rfl⟩
    obtain ⟨P, eP⟩ : ∃ P, P = am_ls N 186 0 (pI v).toInt64 := ⟨_, rfl⟩
    obtain ⟨Q, g3, f3, p3⟩ := s_mrestore (am_s P 174 0 (pI 0))
    have fNQ : fr [174, 175, 186] N Q := fr_trans (N := P) (by rw [eP]; exact fr_ls (by simp)) (fr_trans (N := am_s P 174 0 (pI 0)) (fr_s (by simp)) (fr_mono f3 (by simp)))
    have fMQ : fr KX M Q := fr_trans (fr_mono f1 (fun a ha => mem_KX.mpr (by have := (mem_RLw (by omega)).mp ha; omega))) (fr_mono fNQ (by decide))
    have hP : ∀ b, b ≠ 174 → ∀ k, iv (am_s P 174 0 (pI 0)) b k = iv N b k := fun b hb k => by
      rw [iv_c hb, eP]
      rfl
    have h175 : ∀ k, k < 406 → sg Q k = (fun k => iv M 176 k) k := fun k hk => by
      show iv Q 175 k = iv M 176 k
      rw [p3 k hk, hP 176 (by omega), fr_i f1 (hn 176 (by omega))]
    have hk : ∀ k, k ≠ 0 → iv Q 174 k = iv M 174 k := fun k hk => by
      rw [fr_i f3 (by decide), iv_b hk, eP]
      exact fr_i f1 (hn 174 (by omega)) k
    have hIQ : INV Q := INV_set hI (OK_agree h175 a3) (WD_agree h175 a3 (WD_fr hW1 h6.2 h7.2 fNQ (by intro z z1 z2 z3; simp at z3; omega))) fMQ (hk 4 (by omega)) (hk 7 (by omega)) (hk 8 (by omega)) (hk 11 (by omega))
    refine CS_yes (O := N) (v := pI v) (Q := Q) ?_ ?_ ?_ ?_ hIQ
    · unfold g_L_restore g_X9_restore
      have c4 : am_g N 1 4 = pI v := by rw [pi_g, hW1.2.1.2.2, ev]
      rw [if_neg (show ¬ (am_g M 0 6 = (0 : Int32)) by rw [pi_g, a1]; decide), g1, am_b_some, c4]
      rfl
    · unfold g_X10_restore
      rw [← eP, show am_s P 174 0 (0 : Int32) = am_s P 174 0 (pI 0) from rfl, if_neg (show ¬ (am_g (am_s P 174 0 (pI 0)) 174 4 = (0 : Int32)) by
        rw [pi_g, iv_b (by decide), eP, show iv (am_ls N 186 0 (pI v).toInt64) 174 4 = iv N 174 4 from rfl, fr_i f1 (hn 174 (by omega)), a2]
        decide), g3, am_b_some, aci _ _ _ (by decide)]
      show some (am_g Q 175 0, Q) = _
      rw [pi_g, show iv Q 175 0 = v from (h175 0 (by omega)).trans ev.symm]
    · rw [fr_i f3 (by decide), iv_a (by omega) (by omega)]
    · rw [fr_l f3 (by decide), eP]
      rfl
end RT2
