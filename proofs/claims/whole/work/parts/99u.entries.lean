/-! all entries are done, on both sides -/
section SQ
theorem s_mframe (P : am_M) : ∃ Q, g_X10_read_L33 am_fu (0 : Int32) P = some ((), Q) ∧ fr [177] P Q ∧ ∀ k, k < 406 → iv Q 177 k = iv P 175 k := by
  obtain ⟨⟨u, Q⟩, g1, f1, p1⟩ := lo_for (fun m (s : Int32 × am_M) => g_X10_read_L33 m s.1 s.2) (fun q s => s.1 = pI (q : Nat) ∧ fr [177] P s.2 ∧ ∀ k, k < q → iv s.2 177 k = iv P 175 k) (fun s => fr [177] P s.2 ∧ ∀ k, k < 406 → iv s.2 177 k = iv P 175 k) 0 406 (pI 0, P) ⟨rfl, fr_refl _ _, fun k hk => by omega⟩ (by omega) (by unfold am_fu; omega) (by
    rintro m q ⟨b, Q⟩ hq ⟨e, hf, hp⟩
    dsimp only at e hf hp
    subst e
    left
    refine ⟨(pI (q + 1 : Nat), am_s Q 177 q (am_g Q 175 q)), ?_, rfl, fr_trans hf (fr_s (by simp)), fun k hk => ?_⟩
    · dsimp only
      rw [g_X10_read_L33, if_neg (show ¬ ((406 : Int32) ≤ pI (q : Nat)) by show ¬ (pI 406 ≤ _); rw [pi_le (by omega) (by omega) (by omega) (by omega)]; omega), pi_ci (by omega) (by omega) (by omega), pi_ci (by omega) (by omega) (by omega), pi_cn (by omega) (by omega), Int.toNat_natCast, show pI (q : Nat) + (1 : Int32) = pI (q + 1 : Nat) from by rw [show (1 : Int32) = pI 1 from rfl, pi_add]; rfl]
    · dsimp only
      by_cases h : k = q
      · rw [h, iv_aa, ← fr_i hf (show 175 ∉ [177] by decide) q]
        rfl
      · rw [iv_b h]; exact hp k (by omega)) (by
    rintro m ⟨b, Q⟩ ⟨e, hf, hp⟩
    dsimp only at e hf hp
    subst e
    refine ⟨((), Q), ?_, hf, hp⟩
    dsimp only
    rw [g_X10_read_L33]
    rfl)
  exact ⟨Q, g1, f1, p1⟩
theorem s_mback (P : am_M) : ∃ Q, g_X10_read_L112 am_fu (0 : Int32) P = some ((), Q) ∧ fr [175] P Q ∧ ∀ k, k < 406 → iv Q 175 k = iv P 177 k := by
  obtain ⟨⟨u, Q⟩, g1, f1, p1⟩ := lo_for (fun m (s : Int32 × am_M) => g_X10_read_L112 m s.1 s.2) (fun q s => s.1 = pI (q : Nat) ∧ fr [175] P s.2 ∧ ∀ k, k < q → iv s.2 175 k = iv P 177 k) (fun s => fr [175] P s.2 ∧ ∀ k, k < 406 → iv s.2 175 k = iv P 177 k) 0 406 (pI 0, P) ⟨rfl, fr_refl _ _, fun k hk => by omega⟩ (by omega) (by unfold am_fu; omega) (by
    rintro m q ⟨b, Q⟩ hq ⟨e, hf, hp⟩
    dsimp only at e hf hp
    subst e
    left
    refine ⟨(pI (q + 1 : Nat), am_s Q 175 q (am_g Q 177 q)), ?_, rfl, fr_trans hf (fr_s (by simp)), fun k hk => ?_⟩
    · dsimp only
      rw [g_X10_read_L112, if_neg (show ¬ ((406 : Int32) ≤ pI (q : Nat)) by show ¬ (pI 406 ≤ _); rw [pi_le (by omega) (by omega) (by omega) (by omega)]; omega), pi_ci (by omega) (by omega) (by omega), pi_ci (by omega) (by omega) (by omega), pi_cn (by omega) (by omega), Int.toNat_natCast, show pI (q : Nat) + (1 : Int32) = pI (q + 1 : Nat) from by rw [show (1 : Int32) = pI 1 from rfl, pi_add]; rfl]
    · dsimp only
      by_cases h : k = q
      · rw [h, iv_aa, ← fr_i hf (show 177 ∉ [175] by decide) q]
        rfl
      · rw [iv_b h]; exact hp k (by omega)) (by
    rintro m ⟨b, Q⟩ ⟨e, hf, hp⟩
    dsimp only at e hf hp
    subst e
    refine ⟨((), Q), ?_, hf, hp⟩
    dsimp only
    rw [g_X10_read_L112]
    rfl)
  exact ⟨Q, g1, f1, p1⟩
def KR : List Nat := (List.range 190).filter (fun a => decide (¬ (53 ≤ a ∧ a < 105) ∧ a ≠ 167 ∧ a ≠ 168 ∧ a ≠ 173 ∧ a ≠ 176 ∧ a ≠ 178 ∧ a ≠ 179))
theorem mem_KR {a : Nat} (h : a ∈ KR) : ¬ (53 ≤ a ∧ a < 105) ∧ a ≠ 167 ∧ a ≠ 168 ∧ a ≠ 173 ∧ a ≠ 176 ∧ a ≠ 178 ∧ a ≠ 179 := by
  unfold KR at h
  rw [List.mem_filter, decide_eq_true_eq] at h
  exact h.2
theorem in_KR {a : Nat} (h : a < 190) (h2 : ¬ (53 ≤ a ∧ a < 105) ∧ a ≠ 167 ∧ a ≠ 168 ∧ a ≠ 173 ∧ a ≠ 176 ∧ a ≠ 178 ∧ a ≠ 179) : a ∈ KR := by
  unfold KR
  rw [List.mem_filter, List.mem_range, decide_eq_true_eq]
  exact ⟨h, h2⟩
theorem INV_read {M Q : am_M} (h : INV M) (hO : OK (sg Q)) (hW : WD (sg Q) 1 Q) (hf : fr KR M Q) (h06 : iv Q 0 6 = iv M 0 6) (h9 : iv Q 169 0 = 0) (h7 : iv Q 174 7 = 0) (h07 : iv Q 0 7 = iv Q 174 8) (h8 : -1 ≤ iv Q 174 8) (h4 : iv Q 174 4 = iv M 174 4) (h11 : iv Q 174 11 = iv M 174 11) : INV Q := by
  obtain ⟨_, _, a1, a2, a3, a4, a5⟩ := h
  refine ⟨hO, hW, h11.trans a1, ?_, fun q hq => ?_, ⟨by rw [h9, h7], by omega, fun k hk => by omega⟩, h07, h8⟩
  · rcases a2 with ⟨b1, b2⟩ | ⟨b1, b2, b3, b4⟩
    · exact Or.inl ⟨h06.trans b1, h4.trans b2⟩
    · have e : (fun k => iv Q 176 k) = fun k => iv M 176 k := funext fun k => fr_i hf (fun q => by have := mem_KR q; omega) k
      refine Or.inr ⟨h06.trans b1, h4.trans b2, by rw [e]; exact b3, ?_⟩
      rw [e]
      exact WD_fr b4 b3.2.2.1.2 b3.2.2.2.1.2 hf (fun a c1 c2 q => by have := mem_KR q; omega)
  · rw [fr_i hf (fun q => by have := mem_KR q; omega), fr_i hf (fun q => by have := mem_KR q; omega)]
    rcases a3 q hq with b | ⟨b1, b2, b3⟩
    · exact Or.inl b
    · exact Or.inr ⟨b1, b2, fun k hk => by rw [fr_i hf (fun q => by have := mem_KR q; omega), fr_i hf (fun q => by have := mem_KR q; omega)]; exact b3 k hk⟩
def KU (B B' : am_M) : Prop := fr [174, 175, 180, 181] B B' ∧ ∀ i, i ≠ 0 → i ≠ 19 → i ≠ 20 → iv B' 174 i = iv B 174 i
theorem RE_loop {ch : Nat → Int} {L n : Nat} (hL : ∀ i, L ≤ i → ch i = -1) (h40 : L ≤ 40) (hSP : SP ch L n 1) : ∀ (d k f m : Nat) (A B : am_M), k + d = n → d < f → d < m → WD (sg B) 1 A → OK (sg B) → TMs ch L (pp ch k) 1 B → EA ch n A → iv A 169 1 = n → ∃ (u : Nat) (r z : Int) (A' B' : am_M), g_X9_doEntries_L13 f (pI k) A = some (u, A') ∧ g_X10_read_L67 m (pI k) (pI 1) B = some ((pI r, pI z), B') ∧ fr KC A A' ∧ KU B B' ∧ ((u = 88 ∧ z = 1 ∧ r = n ∧ WD (sg B') 1 A' ∧ OK (sg B')) ∨ (u = 69 ∧ z = 0))
  | 0, k, f, m, A, B, hk, hf0, hm, hW, hO, hT, hE, hA => by
    obtain ⟨f, rfl⟩ : ∃ g, f = g + 1 := ⟨f - 1, by omega⟩
    obtain ⟨m, rfl⟩ : ∃ g, m = g + 1 := ⟨m - 1, by omega⟩
    have ek : k = n := by omega
    subst ek
    have hpr := pp_rng hL k hSP.1
    have hLp : L ≤ pp ch k := by
      rcases hSP.2.2 with q | q
      · exact q.2.2
      · omega
    refine ⟨88, k, 1, A, B, ?_, ?_, fr_refl _ _, ⟨fr_refl _ _, fun _ _ _ _ => rfl⟩, Or.inl ⟨rfl, rfl, rfl, hW, hO⟩⟩
    · rw [g_X9_doEntries_L13, show am_g A 169 1 = pI k by rw [pi_g, hA], if_pos (show pI (k : Nat) ≤ pI (k : Nat) by rw [pi_le (by omega) (by omega) (by omega) (by omega)]; omega)]
    · rw [g_X10_read_L67, if_neg ci1, show am_g B 174 7 = pI L by rw [pi_g, hT.1.2.1], show am_g B 174 19 = pI (pp ch k : Nat) by rw [pi_g, hT.2.1], if_pos (show pI (L : Nat) ≤ pI (pp ch k : Nat) by rw [pi_le (by omega) (by omega) (by omega) (by omega)]; omega)]
  | d + 1, k, f, m, A, B, hk, hf0, hm, hW, hO, hT, hE, hA => by
    obtain ⟨f, rfl⟩ : ∃ g, f = g + 1 := ⟨f - 1, by omega⟩
    obtain ⟨m, rfl⟩ : ∃ g, m = g + 1 := ⟨m - 1, by omega⟩
    have hpr := pp_rng hL k (fun j hj => hSP.1 j (by omega))
    have hpn := pp_rng hL n hSP.1
    have hkL : pp ch k < L := by
      by_cases q : k = 0
      · subst q
        have : pp ch 0 = 0 := rfl
        omega
      · exact hSP.2.1 k (by omega) (by omega)
    have hok := hSP.1 k (by omega)
    obtain ⟨er1, er2, er3, er4⟩ := en_rng hL (pp ch k)
    obtain ⟨er5, er6, er7, er8, er9, er10⟩ := er4 hok
    obtain ⟨x, y, B9, g2, k2, T2, v2⟩ := s_mentry hT (by omega)
    obtain ⟨rfl, vy⟩ := v2 hok
    rw [hok] at T2
    obtain ⟨E1, E2, E3⟩ := hE k (by omega)
    have hs9 : sg B9 = sg B := sg_fr k2.1 (by decide)
    obtain ⟨f0, A', P', g3, g4, hf4, fA, fP, kP, hfin⟩ := EN_one (σ := sg B) (P := B9) (l := ch (pp ch k)) (a := (enE ch (pp ch k)).2.1.2.1) (b := y) (b' := iv A 172 k) hW hO hs9 (by rw [← er8]; exact er7) er9 (fun q => by
      have e1 := vy q
      have e2 := E3 (by rw [er8]; exact q)
      rw [e1, e2]
      exact ⟨rfl, er10⟩)
    have hKU : KU B P' := ⟨fr_trans (fr_mono k2.1 (by decide)) fP, fun i a0 a1 a2 => by rw [kP i a0, k2.2 i a1 a2]⟩
    have c1 : pI (k : Nat) + (1 : Int32) = pI (k + 1 : Nat) := by rw [show (1 : Int32) = pI 1 from rfl, pi_add]; rfl
    have gc : g_X9_doEntries_L13 (f + 1) (pI (k : Nat)) A = if pI f0 = (0 : Int32) then g_X9_doEntries_L13 f (pI (k + 1 : Nat)) A' else some (69, A') := by
      rw [g_X9_doEntries_L13, show am_g A 169 1 = pI n by rw [pi_g, hA], if_neg (show ¬ (pI (n : Nat) ≤ pI (k : Nat)) by rw [pi_le (by omega) (by omega) (by omega) (by omega)]; omega), s_at1 _ _ _ (by omega) (by omega) (by omega), am_b_some, s_at1 _ _ _ (by omega) (by omega) (by omega), am_b_some, s_at1 _ _ _ (by omega) (by omega) (by omega), am_b_some, Int.toNat_natCast, E1, E2, er8, g3, am_b_some, c1]
    have gm : g_X10_read_L67 (m + 1) (pI (k : Nat)) (pI 1) B = g_X10_read_L67 m (pI (k + 1 : Nat)) (pI (if f0 = 0 then 1 else 0)) P' := by
      rw [g_X10_read_L67, if_neg ci1, show am_g B 174 7 = pI L by rw [pi_g, hT.1.2.1], show am_g B 174 19 = pI (pp ch k : Nat) by rw [pi_g, hT.2.1], if_neg (show ¬ (pI (L : Nat) ≤ pI (pp ch k : Nat)) by rw [pi_le (by omega) (by omega) (by omega) (by omega)]; omega), g2, g4, am_b_some, c1]
    by_cases z : f0 = 0
    · subst z
      rw [if_pos rfl] at gm
      rw [if_pos (show pI 0 = (0 : Int32) from rfl)] at gc
      obtain ⟨hW', hO'⟩ := hfin rfl
      have hT' : TMs ch L (pp ch (k + 1)) 1 P' := by
        refine ⟨⟨h40, ?_, fun j hj => ?_, T2.1.2.2.2⟩, ?_, ?_⟩
        · rw [kP 7 (by decide)]; exact T2.1.2.1
        · rw [fr_i fP (by decide)]; exact T2.1.2.2.1 j hj
        · rw [kP 19 (by decide)]; exact T2.2.1
        · rw [kP 20 (by decide)]; exact T2.2.2
      have n170 : ∀ a, 53 ≤ a → a ∉ KC := fun a ha q => by have := mem_KC.mp q; omega
      obtain ⟨u, r, w, A2, B2, p1, p2, p3, p4, p5⟩ := RE_loop hL h40 hSP d (k + 1) f m A' P' (by omega) (by omega) (by omega) hW' hO' hT' (fun j hj => by
        rw [fr_i fA (n170 170 (by omega)), fr_i fA (n170 171 (by omega)), fr_i fA (n170 172 (by omega))]
        exact hE j hj) (by rw [fr_i fA (n170 169 (by omega))]; exact hA)
      exact ⟨u, r, w, A2, B2, gc.trans p1, gm.trans p2, fr_trans fA p3, ⟨fr_trans hKU.1 p4.1, fun i a0 a1 a2 => by rw [p4.2 i a0 a1 a2, hKU.2 i a0 a1 a2]⟩, p5⟩
    · rw [if_neg z] at gm
      rw [if_neg (show ¬ (pI f0 = (0 : Int32)) by rw [show (0 : Int32) = pI 0 from rfl, pi_eq (by omega) (by omega) (by omega) (by omega)]; exact z)] at gc
      refine ⟨69, (k + 1 : Nat), 0, A', P', gc, ?_, fA, hKU, Or.inr ⟨rfl, rfl⟩⟩
      rw [gm]
      obtain ⟨m, rfl⟩ : ∃ g, m = g + 1 := ⟨m - 1, by omega⟩
      rw [g_X10_read_L67, if_pos ci0]
end SQ
