/-! texts: an entry and all entries, by the class -/
section SK
def UE (e : Nat) (A A' : am_M) : Prop := ∀ j, j ≠ e → iv A' 170 j = iv A 170 j ∧ iv A' 171 j = iv A 171 j ∧ iv A' 172 j = iv A 172 j
theorem UE_trans {e : Nat} {A B C : am_M} (h1 : UE e A B) (h2 : UE e B C) : UE e A C := fun j hj => by
  obtain ⟨a1, a2, a3⟩ := h1 j hj
  obtain ⟨b1, b2, b3⟩ := h2 j hj
  exact ⟨b1.trans a1, b2.trans a2, b3.trans a3⟩
theorem UE_fr {e : Nat} {A B : am_M} (h : fr [169] A B) : UE e A B := fun j _ => ⟨fr_i h (by decide) j, fr_i h (by decide) j, fr_i h (by decide) j⟩
theorem UE_s {e a : Nat} {v : Int32} {A : am_M} : UE e A (am_s A a e v) := fun j hj => by
  refine ⟨?_, ?_, ?_⟩ <;>
  · unfold iv am_s
    dsimp only
    rw [if_neg (fun q => hj q.2)]
theorem s_J16 {x : Int} {M : am_M} (h1 : -1 ≤ x) (h2 : x ≤ 126) : (x = 108 → g_X5_parseEntry_J16 (pI x) (1 : Int32) M = g_X5_parseEntry_J47 (pI x) (1 : Int32) M) ∧ (x ≠ 108 → lett x → g_X5_parseEntry_J16 (pI x) (0 : Int32) M = g_X5_parseEntry_J47 (pI x) (0 : Int32) M) ∧ (¬ lett x → g_X5_parseEntry_J16 (pI x) (0 : Int32) M = some (0, M)) := by
  have c1 : (pI x = (119 : Int32)) = (x = 119) := pi_eq (b := 119) (by omega) (by omega) (by omega) (by omega)
  have c2 : (pI x = (99 : Int32)) = (x = 99) := pi_eq (b := 99) (by omega) (by omega) (by omega) (by omega)
  have c3 : (pI x = (102 : Int32)) = (x = 102) := pi_eq (b := 102) (by omega) (by omega) (by omega) (by omega)
  have c4 : (pI x = (114 : Int32)) = (x = 114) := pi_eq (b := 114) (by omega) (by omega) (by omega) (by omega)
  refine ⟨fun h => ?_, fun h hl => ?_, fun hl => ?_⟩
  · unfold g_X5_parseEntry_J16
    rw [if_neg (by decide)]
  · unfold g_X5_parseEntry_J16
    rw [if_pos rfl]
    simp only [c1, c2, c3, c4]
    by_cases d1 : x = 119
    · rw [if_pos d1]
    · rw [if_neg d1]
      by_cases d2 : x = 99
      · rw [if_pos d2]
      · rw [if_neg d2]
        by_cases d3 : x = 102
        · rw [if_pos d3]
        · rw [if_neg d3]
          have d4 : x = 114 := by omega
          rw [if_pos d4]
  · unfold g_X5_parseEntry_J16
    rw [if_pos rfl]
    simp only [c1, c2, c3, c4]
    rw [if_neg (by omega), if_neg (by omega), if_neg (by omega), if_neg (by omega)]
theorem en_rng {ch : Nat → Int} {L : Nat} (hL : ∀ i, L ≤ i → ch i = -1) (i : Nat) : i ≤ (enE ch i).2.2 ∧ (enE ch i).2.2 ≤ i + 7 ∧ ((enE ch i).1 = 0 ∨ (enE ch i).1 = 1) ∧ ((enE ch i).1 = 1 → i + 3 ≤ (enE ch i).2.2 ∧ (enE ch i).2.2 ≤ L ∧ lett (enE ch i).2.1.1 ∧ (enE ch i).2.1.1 = ch i ∧ (0 ≤ (enE ch i).2.1.2.1 ∧ (enE ch i).2.1.2.1 < 40) ∧ (0 ≤ (enE ch i).2.1.2.2 ∧ (enE ch i).2.1.2.2 < 40)) := by
  have n1 := nm_rng ch (i + 1)
  have n2 := nm_rng ch ((nmE ch (i + 1)).2.2 + 1)
  have hin : ∀ j, ch j = 59 → j + 1 ≤ L := fun j hj => by
    by_cases c : L ≤ j
    · have := hL j c
      omega
    · omega
  unfold enE
  by_cases hl : lett (ch i)
  · rw [if_pos hl]
    by_cases z : (nmE ch (i + 1)).1 = 0
    · rw [if_pos z]
      dsimp only
      omega
    · rw [if_neg z]
      by_cases c1 : ch i = 108
      · rw [if_pos c1]
        by_cases c2 : ch (nmE ch (i + 1)).2.2 = 45
        · rw [if_pos c2]
          by_cases z2 : (nmE ch ((nmE ch (i + 1)).2.2 + 1)).1 = 0
          · rw [if_pos z2]
            dsimp only
            omega
          · rw [if_neg z2]
            by_cases c3 : ch (nmE ch ((nmE ch (i + 1)).2.2 + 1)).2.2 = 59
            · rw [if_pos c3]
              have := hin _ c3
              dsimp only
              refine ⟨by omega, by omega, Or.inr rfl, fun _ => ⟨by omega, by omega, by omega, by omega, by omega, by omega⟩⟩
            · rw [if_neg c3]
              dsimp only
              omega
        · rw [if_neg c2]
          dsimp only
          omega
      · rw [if_neg c1]
        by_cases c3 : ch (nmE ch (i + 1)).2.2 = 59
        · rw [if_pos c3]
          have := hin _ c3
          dsimp only
          refine ⟨by omega, by omega, Or.inr rfl, fun _ => ⟨by omega, by omega, hl, rfl, by omega, by omega⟩⟩
        · rw [if_neg c3]
          dsimp only
          omega
  · rw [if_neg hl]
    dsimp only
    omega
theorem s_parseEntry {ch : Nat → Int} {L e i : Nat} {A : am_M} (h : TXs ch L e i A) (he : e < 14) (hi : i < 800) : ∃ A', g_X5_parseEntry A = some (pI (enE ch i).1, A') ∧ fr [169, 170, 171, 172] A A' ∧ TXs ch L e (enE ch i).2.2 A' ∧ UE e A A' ∧ ((enE ch i).1 = 1 → iv A' 170 e = (enE ch i).2.1.1 ∧ iv A' 171 e = (enE ch i).2.1.2.1 ∧ ((enE ch i).2.1.1 = 108 → iv A' 172 e = (enE ch i).2.1.2.2)) := by
  have r0 := TC_rng h.1 i
  have g1 := s_peek h (by omega)
  have c108 : (pI (ch i) = (108 : Int32)) = (ch i = 108) := pi_eq (b := 108) (by omega) (by omega) (by omega) (by omega)
  obtain ⟨j1, j2, j3⟩ := s_J16 (x := ch i) (M := A) r0.1 r0.2
  by_cases hl : lett (ch i)
  rotate_left
  · have en : enE ch i = (0, (0, 0, 0), i) := if_neg hl
    rw [en]
    dsimp only
    refine ⟨A, ?_, fr_refl _ _, h, UE_fr (fr_refl _ _), fun q => absurd q (by decide)⟩
    unfold g_X5_parseEntry
    rw [g1, am_b_some, if_neg (show ¬ (pI (ch i) = (108 : Int32)) by rw [c108]; intro q; exact hl (by omega)), j3 hl]
    rfl
  have cE : ∀ X : am_M, TXs ch L e i X → am_g X 169 1 = pI e := fun X hX => by rw [pi_g, hX.2.1]
  obtain ⟨B1, eB1⟩ : ∃ B1, B1 = am_s A 170 e (pI (ch i)) := ⟨_, rfl⟩
  have T0 : TXs ch L e i B1 := by rw [eB1]; exact TXs_arr h (by decide) (by decide)
  have u0 : UE e A B1 := by rw [eB1]; exact UE_s
  have f0 : fr [169, 170, 171, 172] A B1 := by rw [eB1]; exact fr_s (by simp)
  have w0 : iv B1 170 e = ch i := by rw [eB1, iv_s (by omega) (by omega), if_pos ⟨rfl, rfl⟩]
  have gput : g_X9_put 170 14 (am_g A 169 1) (pI (ch i)) A = some ((), B1) := by
    rw [cE A h, s_put _ _ _ _ (by omega) (by omega) (by omega), Int.toNat_natCast, eB1]
  have c6 : am_g B1 169 6 + (1 : Int32) = pI (i + 1 : Nat) := by rw [pi_g, T0.2.2, show (1 : Int32) = pI 1 from rfl, pi_add]; rfl
  have T1 : TXs ch L e (i + 1) (am_s B1 169 6 (pI (i + 1 : Nat))) := TXs_pos T0 (by omega)
  obtain ⟨A2, g2, f2, T2, v2⟩ := s_parseNumber T1 (by omega)
  have f12 : fr [169] B1 A2 := fr_trans (N := am_s B1 169 6 (pI (i + 1 : Nat))) (fr_s (by simp)) f2
  have fA2 : fr [169, 170, 171, 172] A A2 := fr_trans f0 (fr_mono f12 (by simp))
  have u2 : UE e A A2 := UE_trans u0 (UE_fr f12)
  have w2 : iv A2 170 e = ch i := by rw [fr_i f12 (by decide)]; exact w0
  have n1 := nm_rng ch (i + 1)
  obtain ⟨b, eb⟩ : ∃ b : Int32, b = if ch i = 108 then (1 : Int32) else (0 : Int32) := ⟨_, rfl⟩
  have hJ : g_X5_parseEntry A = g_X5_parseEntry_J47 (pI (ch i)) b A := by
    unfold g_X5_parseEntry
    rw [g1, am_b_some, eb]
    by_cases c : ch i = 108
    · rw [if_pos (show pI (ch i) = (108 : Int32) by rw [c108]; exact c), if_pos c, j1 c]
    · rw [if_neg (show ¬ (pI (ch i) = (108 : Int32)) by rw [c108]; exact c), if_neg c, j2 c hl]
  rw [hJ]
  unfold g_X5_parseEntry_J47
  rw [gput, am_b_some, c6, g2, am_b_some]
  unfold enE
  rw [if_pos hl]
  by_cases z : (nmE ch (i + 1)).1 = 0
  · rw [if_pos z]
    dsimp only
    refine ⟨A2, ?_, fA2, T2, u2, fun q => absurd q (by decide)⟩
    rw [z, if_pos (show pI ((0 : Nat) : Int) = (0 : Int32) from rfl)]
    rfl
  have z1 : (nmE ch (i + 1)).1 = 1 := by omega
  have hv2 := v2 z1
  rw [if_neg z]
  rw [if_neg (show ¬ (pI ((nmE ch (i + 1)).1 : Nat) = (0 : Int32)) by rw [z1]; decide)]
  obtain ⟨A3, eA3⟩ : ∃ A3, A3 = am_s A2 171 e (pI (nmE ch (i + 1)).2.1) := ⟨_, rfl⟩
  have T3 : TXs ch L e (nmE ch (i + 1)).2.2 A3 := by rw [eA3]; exact TXs_arr T2 (by decide) (by decide)
  have cE2 : am_g A2 169 1 = pI e := by rw [pi_g, T2.2.1]
  have c72 : am_g A2 169 7 = pI (nmE ch (i + 1)).2.1 := by rw [pi_g, hv2]
  have gput3 : g_X9_put 171 14 (am_g A2 169 1) (am_g A2 169 7) A2 = some ((), A3) := by
    rw [cE2, c72, s_put _ _ _ _ (by omega) (by omega) (by omega), Int.toNat_natCast, eA3]
  have f23 : fr [171] A2 A3 := by rw [eA3]; exact fr_s (by simp)
  have u3 : UE e A A3 := UE_trans u2 (by rw [eA3]; exact UE_s)
  have fA3 : fr [169, 170, 171, 172] A A3 := fr_trans fA2 (fr_mono f23 (by simp))
  have w3 : iv A3 170 e = ch i ∧ iv A3 171 e = (nmE ch (i + 1)).2.1 := ⟨by rw [fr_i f23 (by decide)]; exact w2, by rw [eA3, iv_s (by omega) (by omega), if_pos ⟨rfl, rfl⟩]⟩
  rw [gput3, am_b_some]
  have cE3 : am_g A3 169 1 = pI e := by rw [pi_g, T3.2.1]
  have c73 : am_g A3 169 7 = pI (nmE ch (i + 1)).2.1 := by rw [pi_g, fr_i f23 (by decide), hv2]
  have am01 : ∀ (k : Nat) (X : am_M), k = 0 ∨ k = 1 → (am_c (pI k = 0 ∨ pI k = 1) (some (pI (k : Nat), X)) : Option (Int32 × am_M)) = some (pI k, X) := fun k X hk => am_c_true (by rcases hk with rfl | rfl <;> decide)
  by_cases c1 : ch i = 108
  · rw [if_pos c1] at eb
    rw [if_pos c1, eb, if_neg (show ¬ ((1 : Int32) = 0) by decide)]
    rcases s_parseSign (s := 45) T3 (by omega) (by omega) with ⟨d1, g4, T4⟩ | ⟨d1, g4⟩
    rotate_left
    · rw [if_neg d1]
      dsimp only
      refine ⟨A3, ?_, fA3, T3, u3, fun q => absurd q (by decide)⟩
      rw [show (45 : Int32) = pI 45 from rfl, g4, am_b_some, if_pos ci0]
      rfl
    rw [if_pos d1]
    obtain ⟨A5, g5, f5, T5, v5⟩ := s_parseNumber T4 (by omega)
    have f35 : fr [169] A3 A5 := fr_trans (N := am_s A3 169 6 (pI ((nmE ch (i + 1)).2.2 + 1 : Nat))) (fr_s (by simp)) f5
    have n2 := nm_rng ch ((nmE ch (i + 1)).2.2 + 1)
    have u5 : UE e A A5 := UE_trans u3 (UE_fr f35)
    have fA5 : fr [169, 170, 171, 172] A A5 := fr_trans fA3 (fr_mono f35 (by simp))
    rw [show (45 : Int32) = pI 45 from rfl, g4, am_b_some, if_neg ci1, g5, am_b_some]
    by_cases z2 : (nmE ch ((nmE ch (i + 1)).2.2 + 1)).1 = 0
    · rw [if_pos z2]
      dsimp only
      refine ⟨A5, ?_, fA5, T5, u5, fun q => absurd q (by decide)⟩
      rw [z2, if_pos (show pI ((0 : Nat) : Int) = (0 : Int32) from rfl)]
      rfl
    have z3 : (nmE ch ((nmE ch (i + 1)).2.2 + 1)).1 = 1 := by omega
    have hv5 := v5 z3
    rw [if_neg z2]
    rw [if_neg (show ¬ (pI ((nmE ch ((nmE ch (i + 1)).2.2 + 1)).1 : Nat) = (0 : Int32)) by rw [z3]; decide)]
    obtain ⟨A6, eA6⟩ : ∃ A6, A6 = am_s A5 172 e (pI (nmE ch ((nmE ch (i + 1)).2.2 + 1)).2.1) := ⟨_, rfl⟩
    have T6 : TXs ch L e (nmE ch ((nmE ch (i + 1)).2.2 + 1)).2.2 A6 := by rw [eA6]; exact TXs_arr T5 (by decide) (by decide)
    have gput6 : g_X9_put 172 14 (am_g A5 169 1) (am_g A5 169 7) A5 = some ((), A6) := by
      rw [show am_g A5 169 1 = pI e by rw [pi_g, T5.2.1], show am_g A5 169 7 = pI (nmE ch ((nmE ch (i + 1)).2.2 + 1)).2.1 by rw [pi_g, hv5], s_put _ _ _ _ (by omega) (by omega) (by omega), Int.toNat_natCast, eA6]
    have f56 : fr [172] A5 A6 := by rw [eA6]; exact fr_s (by simp)
    have u6 : UE e A A6 := UE_trans u5 (by rw [eA6]; exact UE_s)
    have fA6 : fr [169, 170, 171, 172] A A6 := fr_trans fA5 (fr_mono f56 (by simp))
    have w6 : iv A6 170 e = ch i ∧ iv A6 171 e = (nmE ch (i + 1)).2.1 ∧ iv A6 172 e = (nmE ch ((nmE ch (i + 1)).2.2 + 1)).2.1 := ⟨by rw [fr_i f56 (by decide), fr_i f35 (by decide)]; exact w3.1, by rw [fr_i f56 (by decide), fr_i f35 (by decide)]; exact w3.2, by rw [eA6, iv_s (by omega) (by omega), if_pos ⟨rfl, rfl⟩]⟩
    rw [gput6, am_b_some]
    rcases s_parseSign (s := 59) T6 (by omega) (by omega) with ⟨d2, g7, T7⟩ | ⟨d2, g7⟩
    · rw [if_pos d2]
      dsimp only
      refine ⟨_, ?_, fr_trans fA6 (fr_s (by simp)), T7, UE_trans u6 (UE_fr (fr_s (by simp))), fun _ => ?_⟩
      · rw [show (59 : Int32) = pI 59 from rfl, g7, am_b_some]
        exact am01 1 _ (Or.inr rfl)
      · rw [iv_s (by omega) (by omega), if_neg (by omega), iv_s (by omega) (by omega), if_neg (by omega), iv_s (by omega) (by omega), if_neg (by omega)]
        exact ⟨w6.1.trans c1, w6.2.1, fun _ => w6.2.2⟩
    · rw [if_neg d2]
      dsimp only
      refine ⟨A6, ?_, fA6, T6, u6, fun q => absurd q (by decide)⟩
      rw [show (59 : Int32) = pI 59 from rfl, g7, am_b_some]
      exact am01 0 _ (Or.inl rfl)
  · rw [if_neg c1] at eb
    rw [if_neg c1, eb, if_pos rfl]
    obtain ⟨A4, eA4⟩ : ∃ A4, A4 = am_s A3 172 e (pI (nmE ch (i + 1)).2.1) := ⟨_, rfl⟩
    have T4 : TXs ch L e (nmE ch (i + 1)).2.2 A4 := by rw [eA4]; exact TXs_arr T3 (by decide) (by decide)
    have gput4 : g_X9_put 172 14 (am_g A3 169 1) (am_g A3 169 7) A3 = some ((), A4) := by
      rw [cE3, c73, s_put _ _ _ _ (by omega) (by omega) (by omega), Int.toNat_natCast, eA4]
    have f34 : fr [172] A3 A4 := by rw [eA4]; exact fr_s (by simp)
    have u4 : UE e A A4 := UE_trans u3 (by rw [eA4]; exact UE_s)
    have fA4 : fr [169, 170, 171, 172] A A4 := fr_trans fA3 (fr_mono f34 (by simp))
    have w4 : iv A4 170 e = ch i ∧ iv A4 171 e = (nmE ch (i + 1)).2.1 := ⟨by rw [fr_i f34 (by decide)]; exact w3.1, by rw [fr_i f34 (by decide)]; exact w3.2⟩
    rw [gput4, am_b_some]
    rcases s_parseSign (s := 59) T4 (by omega) (by omega) with ⟨d2, g7, T7⟩ | ⟨d2, g7⟩
    · rw [if_pos d2]
      dsimp only
      refine ⟨_, ?_, fr_trans fA4 (fr_s (by simp)), T7, UE_trans u4 (UE_fr (fr_s (by simp))), fun _ => ?_⟩
      · rw [show (59 : Int32) = pI 59 from rfl, g7, am_b_some]
        exact am01 1 _ (Or.inr rfl)
      · rw [iv_s (by omega) (by omega), if_neg (by omega), iv_s (by omega) (by omega), if_neg (by omega)]
        exact ⟨w4.1, w4.2, fun q => absurd q c1⟩
    · rw [if_neg d2]
      dsimp only
      refine ⟨A4, ?_, fA4, T4, u4, fun q => absurd q (by decide)⟩
      rw [show (59 : Int32) = pI 59 from rfl, g7, am_b_some]
      exact am01 0 _ (Or.inl rfl)
end SK
