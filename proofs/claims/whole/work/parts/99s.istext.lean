/-! texts: all entries, by the model -/
section SO
def TM0 (ch : Nat → Int) (L : Nat) (B : am_M) : Prop := L ≤ 40 ∧ iv B 174 7 = L ∧ (∀ j, j < L → iv B 179 j = ch j) ∧ (∀ j, L ≤ j → ch j = -1) ∧ ∀ j, j < L → 32 ≤ ch j ∧ ch j ≤ 126
theorem TM0_set {ch : Nat → Int} {L i b : Nat} {B : am_M} (h : TM0 ch L B) (hi : i < 1000) (hb : b < 1000) : TMs ch L i b (am_s (am_s B 174 19 (pI i)) 174 20 (pI b)) := by
  obtain ⟨h1, h2, h3, h4⟩ := h
  refine ⟨⟨h1, ?_, fun j hj => ?_, h4⟩, ?_, ?_⟩
  · rw [iv_s (by omega) (by omega), if_neg (by omega), iv_s (by omega) (by omega), if_neg (by omega)]; exact h2
  · rw [iv_s (by omega) (by omega), if_neg (by omega), iv_s (by omega) (by omega), if_neg (by omega)]; exact h3 j hj
  · rw [iv_s (by omega) (by omega), if_neg (by omega), iv_s (by omega) (by omega), if_pos ⟨rfl, rfl⟩]
  · rw [iv_s (by omega) (by omega), if_pos ⟨rfl, rfl⟩]
theorem s_isText {ch : Nat → Int} {L : Nat} {B : am_M} (h : TM0 ch L B) : ∃ (n : Nat) (B' : am_M), KT B B' ∧ ((SP ch L n 1 ∧ g_X10_isText B = some (pI 1, B') ∧ TMs ch L (pp ch n) 1 B') ∨ (SP ch L n 0 ∧ g_X10_isText B = some (pI 0, B') ∧ TMs ch L (enE ch (pp ch n)).2.2 0 B')) := by
  have hL := h.2.2.2.1
  have h40 := h.1
  have T19 : iv (am_s B 174 19 (pI (0 : Nat))) 174 7 = L := by rw [iv_s (by omega) (by omega), if_neg (by omega)]; exact h.2.1
  obtain ⟨C, eC⟩ : ∃ C, C = am_s (am_s B 174 19 (pI (0 : Nat))) 174 20 (pI (if L = 0 then (0 : Nat) else 1 : Nat)) := ⟨_, rfl⟩
  have TC0 : TMs ch L 0 (if L = 0 then 0 else 1) C := by rw [eC]; exact TM0_set h (by omega) (by split <;> omega)
  have kC : KT B C := by rw [eC]; exact KT_trans (KT_19 _ _) (KT_20 _ _)
  obtain ⟨⟨u, B'⟩, g1, n, k1, hp⟩ := lo_for (fun m (s : am_M) => g_X10_isText_L21 m s) (fun k s => KT B s ∧ ((TMs ch L (pp ch k) 1 s ∧ (∀ j, j < k → (enE ch (pp ch j)).1 = 1) ∧ (∀ j, 0 < j → j < k → pp ch j < L) ∧ 0 < L) ∨ ∃ n, SP ch L n 0 ∧ TMs ch L (enE ch (pp ch n)).2.2 0 s)) (fun s => ∃ n, KT B s.2 ∧ ((SP ch L n 1 ∧ TMs ch L (pp ch n) 1 s.2) ∨ (SP ch L n 0 ∧ TMs ch L (enE ch (pp ch n)).2.2 0 s.2))) 0 14 C ⟨kC, by
    by_cases c : L = 0
    · rw [if_pos c] at TC0
      have e0 : enE ch 0 = (0, (0, 0, 0), 0) := if_neg (by rw [hL 0 (by omega)]; decide)
      refine Or.inr ⟨0, ⟨fun j hj => by omega, fun j _ hj => by omega, Or.inr ⟨rfl, Or.inl rfl, ?_⟩⟩, ?_⟩
      · show (enE ch 0).1 = 0
        rw [e0]
      · show TMs ch L (enE ch 0).2.2 0 C
        rw [e0]
        exact TC0
    · rw [if_neg c] at TC0
      exact Or.inl ⟨TC0, fun j hj => by omega, fun j _ hj => by omega, by omega⟩⟩ (by omega) (by unfold am_fu; omega) (by
    rintro m k s hk ⟨hK, ⟨hT, hok, hlt, hL0⟩ | ⟨n, hS, hT⟩⟩
    · have hpr := pp_rng hL k hok
      have c20 : am_g s 174 20 = pI (1 : Nat) := by rw [pi_g, hT.2.2]
      have c7 : am_g s 174 7 = pI L := by rw [pi_g, hT.1.2.1]
      have c19 : am_g s 174 19 = pI (pp ch k : Nat) := by rw [pi_g, hT.2.1]
      rw [g_X10_isText_L21, c20, if_neg (by decide), c7, c19]
      by_cases c : L ≤ pp ch k
      · right
        rw [if_pos (show pI (L : Nat) ≤ pI (pp ch k : Nat) by rw [pi_le (by omega) (by omega) (by omega) (by omega)]; omega)]
        refine ⟨((), s), rfl, k, hK, Or.inl ⟨⟨hok, hlt, Or.inl ⟨rfl, ?_, c⟩⟩, hT⟩⟩
        by_cases q : k = 0
        · subst q
          have : pp ch 0 = 0 := rfl
          omega
        · omega
      · left
        rw [if_neg (show ¬ (pI (L : Nat) ≤ pI (pp ch k : Nat)) by rw [pi_le (by omega) (by omega) (by omega) (by omega)]; omega)]
        obtain ⟨x, y, s1, g2, k2, T2, _⟩ := s_mentry hT (by omega)
        have her := en_rng hL (pp ch k)
        have g2' : g_X10_entry (0 : Int32) s = some (1, s1) := by
          rw [g2]
          unfold mtl
          rw [if_pos rfl]
        rw [g2', am_b_some, if_neg (show ¬ ((1 : Int32) = 0) by decide), show am_g s1 174 20 = pI ((enE ch (pp ch k)).1 : Nat) by rw [pi_g, T2.2.2]]
        by_cases z : (enE ch (pp ch k)).1 = 0
        · rw [z] at T2
          rw [z, if_pos (show pI ((0 : Nat) : Int) = (0 : Int32) from rfl)]
          exact ⟨_, rfl, KT_trans hK (KT_trans k2 (KT_20 _ _)), Or.inr ⟨k, ⟨hok, hlt, Or.inr ⟨rfl, Or.inr (by omega), z⟩⟩, TM_20 (j := 0) T2 (by omega)⟩⟩
        · have z1 : (enE ch (pp ch k)).1 = 1 := by omega
          rw [z1] at T2
          rw [z1, if_neg (show ¬ (pI ((1 : Nat) : Int) = (0 : Int32)) by decide)]
          refine ⟨_, rfl, KT_trans hK (KT_trans k2 (KT_20 _ _)), Or.inl ⟨TM_20 (j := 1) T2 (by omega), fun j hj => ?_, fun j hj0 hj => ?_, hL0⟩⟩
          · by_cases e : j = k
            · rw [e]; exact z1
            · exact hok j (by omega)
          · by_cases e : j = k
            · rw [e]; omega
            · exact hlt j hj0 (by omega)
    · right
      have c20 : am_g s 174 20 = pI (0 : Nat) := by rw [pi_g, hT.2.2]
      rw [g_X10_isText_L21, c20, if_pos (show pI ((0 : Nat) : Int) = (0 : Int32) from rfl)]
      exact ⟨((), s), rfl, n, hK, Or.inr ⟨hS, hT⟩⟩) (by
    rintro m s ⟨hK, ⟨hT, hok, hlt, hL0⟩ | ⟨n, hS, hT⟩⟩
    · have hpr := pp_rng hL 14 hok
      have c20 : am_g s 174 20 = pI (1 : Nat) := by rw [pi_g, hT.2.2]
      have c7 : am_g s 174 7 = pI L := by rw [pi_g, hT.1.2.1]
      have c19 : am_g s 174 19 = pI (pp ch 14 : Nat) := by rw [pi_g, hT.2.1]
      rw [g_X10_isText_L21, c20, if_neg (by decide), c7, c19, if_pos (show pI (L : Nat) ≤ pI (pp ch 14 : Nat) by rw [pi_le (by omega) (by omega) (by omega) (by omega)]; omega)]
      exact ⟨((), s), rfl, 14, hK, Or.inl ⟨⟨hok, hlt, Or.inl ⟨rfl, by omega, by omega⟩⟩, hT⟩⟩
    · have c20 : am_g s 174 20 = pI (0 : Nat) := by rw [pi_g, hT.2.2]
      rw [g_X10_isText_L21, c20, if_pos (show pI ((0 : Nat) : Int) = (0 : Int32) from rfl)]
      exact ⟨((), s), rfl, n, hK, Or.inr ⟨hS, hT⟩⟩)
  dsimp only at g1 k1 hp
  have hstart : g_X10_isText B = am_b (g_X10_isText_L21 am_fu C) (fun _ M13 => (am_c ((am_g M13 174 20) = 0 ∨ (am_g M13 174 20) = 1) (some ((am_g M13 174 20), M13)))) := by
    unfold g_X10_isText
    rw [show am_s B 174 19 (0 : Int32) = am_s B 174 19 (pI (0 : Nat)) from rfl, show am_g (am_s B 174 19 (pI (0 : Nat))) 174 7 = pI L by rw [pi_g, T19]]
    by_cases c : L = 0
    · rw [if_pos (show pI (L : Nat) ≤ (0 : Int32) by rw [c]; decide), eC, if_pos c]
      rfl
    · rw [if_neg (show ¬ (pI (L : Nat) ≤ (0 : Int32)) by rw [show (0 : Int32) = pI 0 from rfl, pi_le (by omega) (by omega) (by omega) (by omega)]; omega), eC, if_neg c]
      rfl
  rw [hstart, g1, am_b_some]
  rcases hp with ⟨hS, hT⟩ | ⟨hS, hT⟩
  · refine ⟨n, B', k1, Or.inl ⟨hS, ?_, hT⟩⟩
    rw [show am_g B' 174 20 = pI (1 : Nat) by rw [pi_g, hT.2.2]]
    exact am_c_true (by decide)
  · refine ⟨n, B', k1, Or.inr ⟨hS, ?_, hT⟩⟩
    rw [show am_g B' 174 20 = pI (0 : Nat) by rw [pi_g, hT.2.2]]
    exact am_c_true (by decide)
end SO
