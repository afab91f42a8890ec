/-! texts: all entries, by the class -/
section SL
/-- where the k-th entry begins -/
def pp (ch : Nat → Int) : Nat → Nat
  | 0 => 0
  | k + 1 => (enE ch (pp ch k)).2.2
/-- where reading ends, and how -/
def SP (ch : Nat → Int) (L n k : Nat) : Prop := (∀ j, j < n → (enE ch (pp ch j)).1 = 1) ∧ (∀ j, 0 < j → j < n → pp ch j < L) ∧ ((k = 1 ∧ 0 < n ∧ L ≤ pp ch n) ∨ (k = 0 ∧ (n = 0 ∨ pp ch n < L) ∧ (enE ch (pp ch n)).1 = 0))
theorem SP_uniq {ch : Nat → Int} {L n k n' k' : Nat} (h : SP ch L n k) (h' : SP ch L n' k') : n = n' ∧ k = k' := by
  have key : ∀ {n k n' k' : Nat}, SP ch L n k → SP ch L n' k' → ¬ n < n' := by
    intro n k n' k' h h' hl
    have a1 := h'.1 n hl
    rcases h.2.2 with ⟨_, b1, b2⟩ | ⟨_, b1, b2⟩
    · have := h'.2.1 n b1 hl
      omega
    · omega
  have e : n = n' := by
    have := key h h'
    have := key h' h
    omega
  subst e
  refine ⟨rfl, ?_⟩
  rcases h.2.2 with ⟨a1, a2, a3⟩ | ⟨a1, a2, a3⟩
  · rcases h'.2.2 with ⟨b1, b2, b3⟩ | ⟨b1, b2, b3⟩ <;> omega
  · rcases h'.2.2 with ⟨b1, b2, b3⟩ | ⟨b1, b2, b3⟩ <;> omega
theorem pp_rng {ch : Nat → Int} {L : Nat} (hL : ∀ i, L ≤ i → ch i = -1) : ∀ n : Nat, (∀ j, j < n → (enE ch (pp ch j)).1 = 1) → 3 * n ≤ pp ch n ∧ pp ch n ≤ L
  | 0, _ => ⟨Nat.le_refl _, Nat.zero_le _⟩
  | n + 1, h => by
    have ih := pp_rng hL n (fun j hj => h j (by omega))
    have := (en_rng hL (pp ch n)).2.2.2 (h n (by omega))
    rw [pp]
    omega
def EA (ch : Nat → Int) (n : Nat) (A : am_M) : Prop := ∀ j, j < n → iv A 170 j = (enE ch (pp ch j)).2.1.1 ∧ iv A 171 j = (enE ch (pp ch j)).2.1.2.1 ∧ ((enE ch (pp ch j)).2.1.1 = 108 → iv A 172 j = (enE ch (pp ch j)).2.1.2.2)
theorem TXs_ent {ch : Nat → Int} {L e e' i : Nat} {A : am_M} (h : TXs ch L e i A) (he : e' < 1000) : TXs ch L e' i (am_s A 169 1 (pI e')) := by
  refine ⟨⟨h.1.1, ?_, fun i hi => ?_, h.1.2.2.2⟩, ?_, ?_⟩
  · rw [iv_s (by omega) (by omega), if_neg (by omega)]; exact h.1.2.1
  · rw [iv_s (by omega) (by omega), if_neg (by omega)]; exact h.1.2.2.1 i hi
  · rw [iv_s (by omega) (by omega), if_pos ⟨rfl, rfl⟩]
  · rw [iv_s (by omega) (by omega), if_neg (by omega)]; exact h.2.2
theorem s_parse {ch : Nat → Int} {L : Nat} {A : am_M} (h : TC ch L A) : ∃ (n : Nat) (A' : am_M), fr [169, 170, 171, 172] A A' ∧ ((SP ch L n 1 ∧ g_X5_parse A = some (pI (-1), A') ∧ iv A' 169 1 = n ∧ EA ch n A') ∨ (SP ch L n 0 ∧ g_X5_parse A = some (pI ((enE ch (pp ch n)).2.2 : Nat), A'))) := by
  have hL := h.2.2.2.1
  have h40 := h.1
  obtain ⟨A0, eA0⟩ : ∃ A0, A0 = am_s (am_s A 169 1 (pI 0)) 169 6 (pI 0) := ⟨_, rfl⟩
  have f0 : fr [169, 170, 171, 172] A A0 := by rw [eA0]; exact fr_trans (N := am_s A 169 1 (pI 0)) (fr_s (by simp)) (fr_s (by simp))
  have T0 : TXs ch L 0 0 A0 := by
    rw [eA0]
    refine ⟨⟨h.1, ?_, fun i hi => ?_, h.2.2.2⟩, ?_, ?_⟩
    · rw [iv_s (by omega) (by omega), if_neg (by omega), iv_s (by omega) (by omega), if_neg (by omega)]; exact h.2.1
    · rw [iv_s (by omega) (by omega), if_neg (by omega), iv_s (by omega) (by omega), if_neg (by omega)]; exact h.2.2.1 i hi
    · rw [iv_s (by omega) (by omega), if_neg (by omega), iv_s (by omega) (by omega), if_pos ⟨rfl, rfl⟩]; rfl
    · rw [iv_s (by omega) (by omega), if_pos ⟨rfl, rfl⟩]; rfl
  obtain ⟨⟨u, A'⟩, g1, n, f1, hp⟩ := lo_for (fun m (s : am_M) => g_X5_parse_L10 m s) (fun k s => TXs ch L k (pp ch k) s ∧ fr [169, 170, 171, 172] A s ∧ (∀ j, j < k → (enE ch (pp ch j)).1 = 1) ∧ (k = 0 ∨ pp ch k < L) ∧ (∀ j, 0 < j → j < k → pp ch j < L) ∧ EA ch k s) (fun s => ∃ n, fr [169, 170, 171, 172] A s.2 ∧ ((SP ch L n 1 ∧ s.1 = 52 ∧ TXs ch L n (pp ch n) s.2 ∧ EA ch n s.2) ∨ (SP ch L n 0 ∧ s.1 = 17 ∧ TXs ch L n (enE ch (pp ch n)).2.2 s.2))) 0 14 A0 ⟨T0, f0, fun j hj => by omega, Or.inl rfl, fun j _ hj => by omega, fun j hj => by omega⟩ (by omega) (by unfold am_fu; omega) (by
    rintro m k s hk ⟨hT, hf, hok, hlt, hlt2, hEA⟩
    have hpr := pp_rng hL k hok
    obtain ⟨s1, g2, f2, T2, u2, w2⟩ := s_parseEntry hT hk (by omega)
    have her := en_rng hL (pp ch k)
    rw [g_X5_parse_L10, g2, am_b_some]
    by_cases z : (enE ch (pp ch k)).1 = 0
    · right
      rw [z, if_pos (show pI ((0 : Nat) : Int) = (0 : Int32) from rfl)]
      exact ⟨(17, s1), rfl, k, fr_trans hf f2, Or.inr ⟨⟨hok, hlt2, Or.inr ⟨rfl, hlt, z⟩⟩, rfl, T2⟩⟩
    · have z1 : (enE ch (pp ch k)).1 = 1 := by omega
      rw [z1, if_neg (show ¬ (pI ((1 : Nat) : Int) = (0 : Int32)) by decide)]
      have c1 : am_g s1 169 1 + (1 : Int32) = pI (k + 1 : Nat) := by rw [pi_g, T2.2.1, show (1 : Int32) = pI 1 from rfl, pi_add]; rfl
      rw [c1]
      have T3 : TXs ch L (k + 1) (pp ch (k + 1)) (am_s s1 169 1 (pI (k + 1 : Nat))) := TXs_ent T2 (by omega)
      have hok' : ∀ j, j < k + 1 → (enE ch (pp ch j)).1 = 1 := fun j hj => by
        by_cases e : j = k
        · rw [e]; exact z1
        · exact hok j (by omega)
      have hpr' := pp_rng hL (k + 1) hok'
      have hf3 : fr [169, 170, 171, 172] A (am_s s1 169 1 (pI (k + 1 : Nat))) := fr_trans hf (fr_trans f2 (fr_s (by simp)))
      have hlt2' : ∀ j, 0 < j → j < k + 1 → pp ch j < L := fun j hj0 hj => by
        by_cases e : j = k
        · subst e; omega
        · exact hlt2 j hj0 (by omega)
      have hEA' : EA ch (k + 1) (am_s s1 169 1 (pI (k + 1 : Nat))) := fun j hj => by
        rw [iv_s (by omega) (by omega), if_neg (by omega), iv_s (by omega) (by omega), if_neg (by omega), iv_s (by omega) (by omega), if_neg (by omega)]
        by_cases e : j = k
        · rw [e]; exact w2 z1
        · obtain ⟨a1, a2, a3⟩ := u2 j e
          rw [a1, a2, a3]
          exact hEA j (by omega)
      have c0 : am_g (am_s s1 169 1 (pI (k + 1 : Nat))) 169 0 = pI L := by rw [pi_g, T3.1.2.1]
      have c6 : am_g (am_s s1 169 1 (pI (k + 1 : Nat))) 169 6 = pI (pp ch (k + 1) : Nat) := by rw [pi_g, T3.2.2]
      have c7 : am_g (am_s s1 169 1 (pI (k + 1 : Nat))) 169 1 = pI (k + 1 : Nat) := by rw [pi_g, T3.2.1]
      rw [c0, c6, c7]
      by_cases c : L ≤ pp ch (k + 1)
      · right
        rw [if_pos (show pI (L : Nat) ≤ pI (pp ch (k + 1) : Nat) by rw [pi_le (by omega) (by omega) (by omega) (by omega)]; omega)]
        exact ⟨_, rfl, k + 1, hf3, Or.inl ⟨⟨hok', hlt2', Or.inl ⟨rfl, by omega, c⟩⟩, rfl, T3, hEA'⟩⟩
      · left
        rw [if_neg (show ¬ (pI (L : Nat) ≤ pI (pp ch (k + 1) : Nat)) by rw [pi_le (by omega) (by omega) (by omega) (by omega)]; omega), if_pos (show pI (k + 1 : Nat) < (14 : Int32) by rw [show (14 : Int32) = pI 14 from rfl, pi_lt (by omega) (by omega) (by omega) (by omega)]; omega)]
        exact ⟨_, rfl, T3, hf3, hok', Or.inr (by omega), hlt2', hEA'⟩) (by
    rintro m s ⟨hT, hf, hok, hlt, hlt2, hEA⟩
    have hpr := pp_rng hL 14 hok
    omega)
  dsimp only at g1 f1 hp
  rcases hp with ⟨hS, rfl, T, hE⟩ | ⟨hS, rfl, T⟩
  · refine ⟨n, A', f1, Or.inl ⟨hS, ?_, T.2.1, hE⟩⟩
    have hpr := pp_rng hL n hS.1
    have hLp : L ≤ pp ch n := by
      rcases hS.2.2 with q | q
      · exact q.2.2
      · omega
    unfold g_X5_parse
    rw [show am_s (am_s A 169 1 (0 : Int32)) 169 6 (0 : Int32) = A0 from eA0.symm, g1, am_b_some, if_neg (by decide), show am_g A' 169 0 = pI L by rw [pi_g, T.1.2.1], show am_g A' 169 6 = pI (pp ch n : Nat) by rw [pi_g, T.2.2], if_pos (show pI (L : Nat) ≤ pI (pp ch n : Nat) by rw [pi_le (by omega) (by omega) (by omega) (by omega)]; omega)]
    rfl
  · refine ⟨n, A', f1, Or.inr ⟨hS, ?_⟩⟩
    unfold g_X5_parse
    rw [show am_s (am_s A 169 1 (0 : Int32)) 169 6 (0 : Int32) = A0 from eA0.symm, g1, am_b_some, if_pos rfl, show am_g A' 169 6 = pI ((enE ch (pp ch n)).2.2 : Nat) by rw [pi_g, T.2.2]]
end SL
