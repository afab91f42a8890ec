/-! texts: how an entry is read, by the model -/
section SM
def TMs (ch : Nat → Int) (L i b : Nat) (B : am_M) : Prop := (L ≤ 40 ∧ iv B 174 7 = L ∧ (∀ j, j < L → iv B 179 j = ch j) ∧ (∀ j, L ≤ j → ch j = -1) ∧ ∀ j, j < L → 32 ≤ ch j ∧ ch j ≤ 126) ∧ iv B 174 19 = i ∧ iv B 174 20 = b
def KT (B B' : am_M) : Prop := fr [174] B B' ∧ ∀ k, k ≠ 19 → k ≠ 20 → iv B' 174 k = iv B 174 k
theorem KT_refl (B : am_M) : KT B B := ⟨fr_refl _ _, fun _ _ _ => rfl⟩
theorem KT_trans {A B C : am_M} (h1 : KT A B) (h2 : KT B C) : KT A C := ⟨fr_trans h1.1 h2.1, fun k a b => (h2.2 k a b).trans (h1.2 k a b)⟩
theorem KT_19 (B : am_M) (v : Int32) : KT B (am_s B 174 19 v) := ⟨fr_s (by simp), fun k a b => by
  unfold iv am_s
  dsimp only
  rw [if_neg (fun q => a q.2)]⟩
theorem KT_20 (B : am_M) (v : Int32) : KT B (am_s B 174 20 v) := ⟨fr_s (by simp), fun k a b => by
  unfold iv am_s
  dsimp only
  rw [if_neg (fun q => b q.2)]⟩
theorem TM_rng {ch : Nat → Int} {L i b : Nat} {B : am_M} (h : TMs ch L i b B) (j : Nat) : -1 ≤ ch j ∧ ch j ≤ 126 := by
  by_cases c : j < L
  · have := h.1.2.2.2.2 j c; omega
  · have := h.1.2.2.2.1 j (by omega); omega
theorem TM_19 {ch : Nat → Int} {L i j b : Nat} {B : am_M} (h : TMs ch L i b B) (hj : j < 1000) : TMs ch L j b (am_s B 174 19 (pI j)) := by
  obtain ⟨⟨h1, h2, h3, h4⟩, h5, h6⟩ := h
  refine ⟨⟨h1, ?_, fun k hk => ?_, h4⟩, ?_, ?_⟩
  · rw [iv_s (by omega) (by omega), if_neg (by omega)]; exact h2
  · rw [iv_s (by omega) (by omega), if_neg (by omega)]; exact h3 k hk
  · rw [iv_s (by omega) (by omega), if_pos ⟨rfl, rfl⟩]
  · rw [iv_s (by omega) (by omega), if_neg (by omega)]; exact h6
theorem TM_20 {ch : Nat → Int} {L i j b : Nat} {B : am_M} (h : TMs ch L i b B) (hj : j < 1000) : TMs ch L i j (am_s B 174 20 (pI j)) := by
  obtain ⟨⟨h1, h2, h3, h4⟩, h5, h6⟩ := h
  refine ⟨⟨h1, ?_, fun k hk => ?_, h4⟩, ?_, ?_⟩
  · rw [iv_s (by omega) (by omega), if_neg (by omega)]; exact h2
  · rw [iv_s (by omega) (by omega), if_neg (by omega)]; exact h3 k hk
  · rw [iv_s (by omega) (by omega), if_neg (by omega)]; exact h5
  · rw [iv_s (by omega) (by omega), if_pos ⟨rfl, rfl⟩]
theorem s_here {ch : Nat → Int} {L i b : Nat} {B : am_M} (h : TMs ch L i b B) (hi : i < 1000) : g_X10_here B = some (pI (ch i), B) := by
  obtain ⟨⟨h1, h2, h3, h4, _⟩, h5, h6⟩ := h
  unfold g_X10_here
  have c0 : am_g B 174 7 = pI L := by rw [pi_g, h2]
  have c6 : am_g B 174 19 = pI i := by rw [pi_g, h5]
  rw [c0, c6]
  by_cases c : L ≤ i
  · rw [if_pos (show pI (L : Nat) ≤ pI (i : Nat) by rw [pi_le (by omega) (by omega) (by omega) (by omega)]; omega), h4 i c]
    rfl
  · rw [if_neg (show ¬ (pI (L : Nat) ≤ pI (i : Nat)) by rw [pi_le (by omega) (by omega) (by omega) (by omega)]; omega), pi_ci (by omega) (by omega) (by omega), pi_cn (by omega) (by omega), Int.toNat_natCast, pi_g, h3 i (by omega)]
theorem s_J21 {ch : Nat → Int} {L i b : Nat} {B : am_M} (h : TMs ch L i b B) (hi : i < 900) : (∃ B', g_X10_must_J21 (0 : Int32) B = some ((), B') ∧ KT B B' ∧ TMs ch L i 0 B') ∧ ∃ B', g_X10_must_J21 (1 : Int32) B = some ((), B') ∧ KT B B' ∧ TMs ch L (i + 1) 1 B' := by
  have T0 : TMs ch L i 0 (am_s B 174 20 (pI (0 : Nat))) := TM_20 h (by omega)
  have T1 : TMs ch L i 1 (am_s B 174 20 (pI (1 : Nat))) := TM_20 h (by omega)
  constructor
  · refine ⟨am_s (am_s B 174 20 (pI (0 : Nat))) 174 19 (pI i), ?_, KT_trans (KT_20 _ _) (KT_19 _ _), TM_19 T0 (by omega)⟩
    unfold g_X10_must_J21
    rw [am_c_true (by decide)]
    show (if am_g (am_s B 174 20 (pI (0 : Nat))) 174 20 = (0 : Int32) then some ((), am_s (am_s B 174 20 (pI (0 : Nat))) 174 19 (am_g (am_s B 174 20 (pI (0 : Nat))) 174 19 + (0 : Int32))) else _) = _
    rw [show am_g (am_s B 174 20 (pI (0 : Nat))) 174 20 = pI (0 : Nat) by rw [pi_g, T0.2.2], if_pos (show pI ((0 : Nat) : Int) = (0 : Int32) from rfl), show am_g (am_s B 174 20 (pI (0 : Nat))) 174 19 = pI i by rw [pi_g, T0.2.1], show (0 : Int32) = pI 0 from rfl, pi_add, Int.add_zero]
  · refine ⟨am_s (am_s B 174 20 (pI (1 : Nat))) 174 19 (pI (i + 1 : Nat)), ?_, KT_trans (KT_20 _ _) (KT_19 _ _), TM_19 T1 (by omega)⟩
    unfold g_X10_must_J21
    rw [am_c_true (by decide)]
    show (if am_g (am_s B 174 20 (pI (1 : Nat))) 174 20 = (0 : Int32) then _ else some ((), am_s (am_s B 174 20 (pI (1 : Nat))) 174 19 (am_g (am_s B 174 20 (pI (1 : Nat))) 174 19 + (1 : Int32)))) = _
    rw [show am_g (am_s B 174 20 (pI (1 : Nat))) 174 20 = pI (1 : Nat) by rw [pi_g, T1.2.2], if_neg (by decide), show am_g (am_s B 174 20 (pI (1 : Nat))) 174 19 = pI i by rw [pi_g, T1.2.1], show (1 : Int32) = pI 1 from rfl, pi_add]
    rfl
theorem s_must {ch : Nat → Int} {L i b : Nat} {c : Int} {B : am_M} (h : TMs ch L i b B) (hi : i < 900) (hb : b = 0 ∨ b = 1) (hc : 0 ≤ c ∧ c < 1000) : ∃ B', g_X10_must (pI c) B = some ((), B') ∧ KT B B' ∧ ((b = 1 ∧ ch i = c ∧ TMs ch L (i + 1) 1 B') ∨ (¬ (b = 1 ∧ ch i = c) ∧ TMs ch L i 0 B')) := by
  obtain ⟨⟨B0, g0, k0, t0⟩, B1, g1, k1, t1⟩ := s_J21 h hi
  have r0 := TM_rng h i
  have cb : am_g B 174 20 = pI b := by rw [pi_g, h.2.2]
  unfold g_X10_must
  rw [cb]
  rcases hb with rfl | rfl
  · rw [if_pos (show pI ((0 : Nat) : Int) = (0 : Int32) from rfl)]
    exact ⟨B0, g0, k0, Or.inr ⟨fun q => absurd q.1 (by decide), t0⟩⟩
  · rw [if_neg (by decide), s_here h (by omega), am_b_some]
    by_cases e : ch i = c
    · rw [if_pos (congrArg pI e)]
      exact ⟨B1, g1, k1, Or.inl ⟨rfl, e, t1⟩⟩
    · rw [if_neg (show ¬ (pI (ch i) = pI c) by rw [pi_eq (by omega) (by omega) (by omega) (by omega)]; exact e)]
      exact ⟨B0, g0, k0, Or.inr ⟨fun q => e q.2, t0⟩⟩
theorem s_J27 {ch : Nat → Int} {L i b : Nat} {B : am_M} (h : TMs ch L i b B) (hi : i < 900) : (∃ B', g_X10_number_J27 (0 : Int32) B = some (pI 0, B') ∧ KT B B' ∧ TMs ch L i 0 B') ∧ (dg (ch i) → ∃ (v : Int) (p : Nat) (B' : am_M), g_X10_number_J27 (1 : Int32) B = some (pI v, B') ∧ KT B B' ∧ TMs ch L p 1 B' ∧ p = (nmE ch i).2.2 ∧ (((nmE ch i).1 = 1 ∧ v = (nmE ch i).2.1) ∨ ((nmE ch i).1 = 0 ∧ dg (ch p)))) := by
  have T0 : TMs ch L i 0 (am_s B 174 20 (pI (0 : Nat))) := TM_20 h (by omega)
  have T1 : TMs ch L i 1 (am_s B 174 20 (pI (1 : Nat))) := TM_20 h (by omega)
  constructor
  · refine ⟨am_s B 174 20 (pI (0 : Nat)), ?_, KT_20 _ _, T0⟩
    unfold g_X10_number_J27
    rw [am_c_true (by decide)]
    show (if am_g (am_s B 174 20 (pI (0 : Nat))) 174 20 = (0 : Int32) then some ((0 : Int32), am_s B 174 20 (pI (0 : Nat))) else _) = _
    rw [show am_g (am_s B 174 20 (pI (0 : Nat))) 174 20 = pI (0 : Nat) by rw [pi_g, T0.2.2], if_pos (show pI ((0 : Nat) : Int) = (0 : Int32) from rfl)]
    rfl
  · intro hd
    have hd' := hd
    unfold dg at hd'
    obtain ⟨C, eC⟩ : ∃ C, C = am_s B 174 20 (pI (1 : Nat)) := ⟨_, rfl⟩
    rw [← eC] at T1
    have kC : KT B C := by rw [eC]; exact KT_20 _ _
    have gh := s_here T1 (by omega)
    have c48 : pI (ch i) - (48 : Int32) = pI (ch i - 48) := by rw [show (48 : Int32) = pI 48 from rfl, pi_sub]
    have c19 : am_g C 174 19 + (1 : Int32) = pI (i + 1 : Nat) := by rw [pi_g, T1.2.1, show (1 : Int32) = pI 1 from rfl, pi_add]; rfl
    obtain ⟨D, eD⟩ : ∃ D, D = am_s C 174 19 (pI (i + 1 : Nat)) := ⟨_, rfl⟩
    have TD : TMs ch L (i + 1) 1 D := by rw [eD]; exact TM_19 T1 (by omega)
    have kD : KT B D := KT_trans kC (by rw [eD]; exact KT_19 _ _)
    have r1 := TM_rng TD (i + 1)
    have c19D : am_g D 174 19 + (1 : Int32) = pI (i + 2 : Nat) := by rw [pi_g, TD.2.1, show (1 : Int32) = pI 1 from rfl, pi_add]; rfl
    have c20 : am_g C 174 20 = pI (1 : Nat) := by rw [pi_g, T1.2.2]
    have ghD := s_here TD (by omega)
    have pre : ∀ z, (if (3 : Int32) < pI (ch i - 48) then some (pI (ch i - 48), D) else (am_b (g_X10_in (pI (ch (i + 1))) (48 : Int32) (57 : Int32) D) (fun v10 M9 => (if v10 = (0 : Int32) then (some (pI (ch i - 48), M9)) else (am_ci ((am_g (am_s M9 174 19 ((am_g M9 174 19) + (1 : Int32))) 174 19) - (1 : Int32)) 40 (some (((((10 : Int32) * pI (ch i - 48)) + (am_g (am_s M9 174 19 ((am_g M9 174 19) + (1 : Int32))) 179 ((am_g (am_s M9 174 19 ((am_g M9 174 19) + (1 : Int32))) 174 19) - (1 : Int32)).toNatClampNeg)) - (48 : Int32)), (am_s M9 174 19 ((am_g M9 174 19) + (1 : Int32)))))))))) = z → g_X10_number_J27 (1 : Int32) B = z := fun z hz => by
      rw [← hz]
      unfold g_X10_number_J27
      rw [am_c_true (by decide), show am_s B 174 20 (1 : Int32) = C from eC.symm, c20, if_neg (by decide), gh, am_b_some, c48, c19, ← eD, ghD, am_b_some]
    rcases nm_cases ch i with ⟨h1, en⟩ | ⟨h1, h2, en⟩ | ⟨h1, h2, h3, en⟩ | ⟨h1, h2, h3, en⟩
    · exact absurd hd h1
    · rw [en]
      dsimp only
      refine ⟨ch i - 48, i + 1, D, pre _ ?_, kD, TD, rfl, Or.inl ⟨rfl, rfl⟩⟩
      by_cases c : (3 : Int32) < pI (ch i - 48)
      · rw [if_pos c]
      · have gi : g_X10_in (pI (ch (i + 1))) (48 : Int32) (57 : Int32) D = some (pI 0, D) := min_f (b := 48) (c := 57) (by omega) (by omega) (by omega) (by omega) (by omega) (by omega) h2
        rw [if_neg c, gi, am_b_some, if_pos ci0]
    · rw [en]
      dsimp only
      have hT2 := TM_19 (j := i + 2) TD (by omega)
      refine ⟨10 * (ch i - 48) + (ch (i + 1) - 48), i + 2, am_s D 174 19 (pI (i + 2 : Nat)), pre _ ?_, KT_trans kD (KT_19 _ _), hT2, rfl, Or.inl ⟨rfl, rfl⟩⟩
      have gi : g_X10_in (pI (ch (i + 1))) (48 : Int32) (57 : Int32) D = some (pI 1, D) := min_t (b := 48) (c := 57) (by omega) h2.1 h2.2 (by omega)
      have hiL : i + 1 < L := by
        by_cases q : i + 1 < L
        · exact q
        · have := TD.1.2.2.2.1 (i + 1) (by omega)
          unfold dg at h2
          omega
      have h40 := TD.1.1
      have c2 : am_g (am_s D 174 19 (pI (i + 2 : Nat))) 174 19 - (1 : Int32) = pI (i + 1 : Nat) := by
        rw [pi_g, hT2.2.1, show (1 : Int32) = pI 1 from rfl, pi_sub]
        exact congrArg pI (by omega)
      have c3 : am_g (am_s D 174 19 (pI (i + 2 : Nat))) 179 (pI (i + 1 : Nat)).toNatClampNeg = pI (ch (i + 1)) := by
        rw [pi_cn (by omega) (by omega), Int.toNat_natCast, pi_g, hT2.1.2.2.1 _ hiL]
      rw [if_neg (show ¬ ((3 : Int32) < pI (ch i - 48)) by rw [show (3 : Int32) = pI 3 from rfl, pi_lt (by omega) (by omega) (by omega) (by omega)]; omega), gi, am_b_some, if_neg ci1, c19D, c2, c3, pi_ci (by omega) (by omega) (by omega), show (10 : Int32) = pI 10 from rfl, show (48 : Int32) = pI 48 from rfl, pi_mul, pi_add, pi_sub]
      exact congrArg (fun z => some (pI z, _)) (by omega)
    · rw [en]
      dsimp only
      refine ⟨ch i - 48, i + 1, D, pre _ ?_, kD, TD, rfl, Or.inr ⟨rfl, h2⟩⟩
      rw [if_pos (show (3 : Int32) < pI (ch i - 48) by rw [show (3 : Int32) = pI 3 from rfl, pi_lt (by omega) (by omega) (by omega) (by omega)]; omega)]
theorem s_number {ch : Nat → Int} {L i b : Nat} {B : am_M} (h : TMs ch L i b B) (hi : i < 900) (hb : b = 0 ∨ b = 1) : ∃ (v : Int) (p b' : Nat) (B' : am_M), g_X10_number B = some (pI v, B') ∧ KT B B' ∧ TMs ch L p b' B' ∧ (b' = 0 ∨ b' = 1) ∧ ((b = 0 ∧ b' = 0 ∧ p = i) ∨ (b = 1 ∧ p = (nmE ch i).2.2 ∧ (((nmE ch i).1 = 1 ∧ b' = 1 ∧ v = (nmE ch i).2.1) ∨ ((nmE ch i).1 = 0 ∧ (b' = 0 ∨ dg (ch p)))))) := by
  obtain ⟨⟨B0, g0, k0, t0⟩, hy⟩ := s_J27 h hi
  have r0 := TM_rng h i
  have cb : am_g B 174 20 = pI b := by rw [pi_g, h.2.2]
  unfold g_X10_number
  rw [cb]
  rcases hb with rfl | rfl
  · rw [if_pos (show pI ((0 : Nat) : Int) = (0 : Int32) from rfl)]
    exact ⟨0, i, 0, B0, g0, k0, t0, Or.inl rfl, Or.inl ⟨rfl, rfl, rfl⟩⟩
  · rw [if_neg (by decide), s_here h (by omega), am_b_some]
    by_cases d : dg (ch i)
    · obtain ⟨v, p, B', g1, k1, t1, e1, e2⟩ := hy d
      have gi : g_X10_in (pI (ch i)) (48 : Int32) (57 : Int32) B = some (pI 1, B) := min_t (b := 48) (c := 57) (by omega) d.1 d.2 (by omega)
      rw [gi, am_b_some, if_neg ci1]
      refine ⟨v, p, 1, B', g1, k1, t1, Or.inr rfl, Or.inr ⟨rfl, e1, ?_⟩⟩
      rcases e2 with ⟨a1, a2⟩ | ⟨a1, a2⟩
      · exact Or.inl ⟨a1, rfl, a2⟩
      · exact Or.inr ⟨a1, Or.inr a2⟩
    · have gi : g_X10_in (pI (ch i)) (48 : Int32) (57 : Int32) B = some (pI 0, B) := min_f (b := 48) (c := 57) (by omega) (by omega) (by omega) (by omega) (by omega) (by omega) d
      rw [gi, am_b_some, if_pos ci0]
      have en : nmE ch i = (0, 0, i) := if_neg d
      refine ⟨0, i, 0, B0, g0, k0, t0, Or.inl rfl, Or.inr ⟨rfl, ?_, ?_⟩⟩
      · rw [en]
      · rw [en]
        exact Or.inr ⟨rfl, Or.inl rfl⟩
end SM
