/-! texts: how an entry is read, by the class -/
section SJ
abbrev dg (x : Int) : Prop := 48 ≤ x ∧ x ≤ 57
/-- a number from a place on: whether there is one, its value, where it ends or fails -/
def nmE (ch : Nat → Int) (i : Nat) : Nat × Int × Nat := if dg (ch i) then (if dg (ch (i + 1)) then (if ch i ≤ 51 then (1, 10 * (ch i - 48) + (ch (i + 1) - 48), i + 2) else (0, 0, i + 1)) else (1, ch i - 48, i + 1)) else (0, 0, i)
theorem nm_cases (ch : Nat → Int) (i : Nat) : (¬ dg (ch i) ∧ nmE ch i = (0, 0, i)) ∨ (dg (ch i) ∧ ¬ dg (ch (i + 1)) ∧ nmE ch i = (1, ch i - 48, i + 1)) ∨ (dg (ch i) ∧ dg (ch (i + 1)) ∧ ch i ≤ 51 ∧ nmE ch i = (1, 10 * (ch i - 48) + (ch (i + 1) - 48), i + 2)) ∨ (dg (ch i) ∧ dg (ch (i + 1)) ∧ 51 < ch i ∧ nmE ch i = (0, 0, i + 1)) := by
  unfold nmE
  by_cases h1 : dg (ch i)
  · rw [if_pos h1]
    by_cases h2 : dg (ch (i + 1))
    · rw [if_pos h2]
      by_cases h3 : ch i ≤ 51
      · rw [if_pos h3]
        exact Or.inr (Or.inr (Or.inl ⟨h1, h2, h3, rfl⟩))
      · rw [if_neg h3]
        exact Or.inr (Or.inr (Or.inr ⟨h1, h2, by omega, rfl⟩))
    · rw [if_neg h2]
      exact Or.inr (Or.inl ⟨h1, h2, rfl⟩)
  · rw [if_neg h1]
    exact Or.inl ⟨h1, rfl⟩
abbrev lett (x : Int) : Prop := x = 119 ∨ x = 99 ∨ x = 102 ∨ x = 108 ∨ x = 114
/-- an entry from a place on: whether there is one, what it says, where it ends or fails -/
def enE (ch : Nat → Int) (i : Nat) : Nat × (Int × Int × Int) × Nat :=
  if lett (ch i) then
    (if (nmE ch (i + 1)).1 = 0 then (0, (0, 0, 0), (nmE ch (i + 1)).2.2)
     else if ch i = 108 then
      (if ch (nmE ch (i + 1)).2.2 = 45 then
        (if (nmE ch ((nmE ch (i + 1)).2.2 + 1)).1 = 0 then (0, (0, 0, 0), (nmE ch ((nmE ch (i + 1)).2.2 + 1)).2.2)
         else if ch (nmE ch ((nmE ch (i + 1)).2.2 + 1)).2.2 = 59 then (1, (108, (nmE ch (i + 1)).2.1, (nmE ch ((nmE ch (i + 1)).2.2 + 1)).2.1), (nmE ch ((nmE ch (i + 1)).2.2 + 1)).2.2 + 1)
         else (0, (0, 0, 0), (nmE ch ((nmE ch (i + 1)).2.2 + 1)).2.2))
       else (0, (0, 0, 0), (nmE ch (i + 1)).2.2))
     else if ch (nmE ch (i + 1)).2.2 = 59 then (1, (ch i, (nmE ch (i + 1)).2.1, 0), (nmE ch (i + 1)).2.2 + 1)
     else (0, (0, 0, 0), (nmE ch (i + 1)).2.2))
  else (0, (0, 0, 0), i)
theorem nm_rng (ch : Nat → Int) (i : Nat) : i ≤ (nmE ch i).2.2 ∧ (nmE ch i).2.2 ≤ i + 2 ∧ ((nmE ch i).1 = 0 ∨ (nmE ch i).1 = 1) ∧ (0 ≤ (nmE ch i).2.1 ∧ (nmE ch i).2.1 < 40) ∧ ((nmE ch i).1 = 1 → i + 1 ≤ (nmE ch i).2.2) := by
  rcases nm_cases ch i with ⟨h, e⟩ | ⟨h, h2, e⟩ | ⟨h, h2, h3, e⟩ | ⟨h, h2, h3, e⟩ <;> rw [e] <;> dsimp only <;> unfold dg at h <;> (try unfold dg at h2) <;> omega
def TC (ch : Nat → Int) (L : Nat) (A : am_M) : Prop := L ≤ 40 ∧ iv A 169 0 = L ∧ (∀ i, i < L → iv A 173 i = ch i) ∧ (∀ i, L ≤ i → ch i = -1) ∧ ∀ i, i < L → 32 ≤ ch i ∧ ch i ≤ 126
def TXs (ch : Nat → Int) (L e i : Nat) (A : am_M) : Prop := TC ch L A ∧ iv A 169 1 = e ∧ iv A 169 6 = i
theorem TC_rng {ch : Nat → Int} {L : Nat} {A : am_M} (h : TC ch L A) (i : Nat) : -1 ≤ ch i ∧ ch i ≤ 126 := by
  by_cases c : i < L
  · have := h.2.2.2.2 i c; omega
  · have := h.2.2.2.1 i (by omega); omega
theorem TXs_arr {ch : Nat → Int} {L e i a k : Nat} {v : Int32} {A : am_M} (h : TXs ch L e i A) (ha : a ≠ 169) (ha2 : a ≠ 173) : TXs ch L e i (am_s A a k v) := by
  have f : fr [a] A (am_s A a k v) := fr_s (by simp)
  have n1 : 169 ∉ [a] := by simp; omega
  have n2 : 173 ∉ [a] := by simp; omega
  exact ⟨⟨h.1.1, by rw [fr_i f n1]; exact h.1.2.1, fun i hi => by rw [fr_i f n2]; exact h.1.2.2.1 i hi, h.1.2.2.2⟩, by rw [fr_i f n1]; exact h.2.1, by rw [fr_i f n1]; exact h.2.2⟩
theorem TXs_pos {ch : Nat → Int} {L e i j : Nat} {A : am_M} (h : TXs ch L e i A) (hj : j < 1000) : TXs ch L e j (am_s A 169 6 (pI j)) := by
  refine ⟨⟨h.1.1, ?_, fun i hi => ?_, h.1.2.2.2⟩, ?_, ?_⟩
  · rw [iv_s (by omega) (by omega), if_neg (by omega)]; exact h.1.2.1
  · rw [iv_s (by omega) (by omega), if_neg (by omega)]; exact h.1.2.2.1 i hi
  · rw [iv_s (by omega) (by omega), if_neg (by omega)]; exact h.2.1
  · rw [iv_s (by omega) (by omega), if_pos ⟨rfl, rfl⟩]
theorem TXs_num {ch : Nat → Int} {L e i : Nat} {v : Int} {A : am_M} (h : TXs ch L e i A) (hv : -1000 ≤ v ∧ v < 1000) : TXs ch L e i (am_s A 169 7 (pI v)) := by
  refine ⟨⟨h.1.1, ?_, fun i hi => ?_, h.1.2.2.2⟩, ?_, ?_⟩
  · rw [iv_s (by omega) (by omega), if_neg (by omega)]; exact h.1.2.1
  · rw [iv_s (by omega) (by omega), if_neg (by omega)]; exact h.1.2.2.1 i hi
  · rw [iv_s (by omega) (by omega), if_neg (by omega)]; exact h.2.1
  · rw [iv_s (by omega) (by omega), if_neg (by omega)]; exact h.2.2
theorem s_peek {ch : Nat → Int} {L e i : Nat} {A : am_M} (h : TXs ch L e i A) (hi : i < 1000) : g_X5_peek A = some (pI (ch i), A) := by
  have h40 := h.1.1
  unfold g_X5_peek
  have c0 : am_g A 169 0 = pI L := by rw [pi_g, h.1.2.1]
  have c6 : am_g A 169 6 = pI i := by rw [pi_g, h.2.2]
  rw [c0, c6]
  by_cases c : L ≤ i
  · rw [if_pos (show pI (L : Nat) ≤ pI (i : Nat) by rw [pi_le (by omega) (by omega) (by omega) (by omega)]; omega), h.1.2.2.2.1 i c]
    rfl
  · rw [if_neg (show ¬ (pI (L : Nat) ≤ pI (i : Nat)) by rw [pi_le (by omega) (by omega) (by omega) (by omega)]; omega), s_at1 _ _ _ (by omega) (by omega) (by omega), am_b_some, Int.toNat_natCast, h.1.2.2.1 i (by omega)]
theorem s_isDigit {x : Int} {M : am_M} (h1 : -1000 ≤ x) (h2 : x < 1000) : g_X5_isDigit (pI x) M = some (pI (if dg x then 1 else 0), M) := by
  unfold g_X5_isDigit
  have c1 : (pI x < (48 : Int32)) = (x < 48) := pi_lt (b := 48) (by omega) (by omega) (by omega) (by omega)
  have c2 : ((57 : Int32) < pI x) = (57 < x) := pi_lt (a := 57) (by omega) (by omega) (by omega) (by omega)
  simp only [c1, c2]
  by_cases h : dg x
  · unfold dg at h
    rw [if_neg (by omega), if_neg (by omega), if_pos (show dg x from h)]
    rfl
  · rw [if_neg h]
    unfold dg at h
    by_cases c : x < 48
    · rw [if_pos c]; rfl
    · rw [if_neg c, if_pos (by omega)]; rfl
theorem s_parseNumber {ch : Nat → Int} {L e i : Nat} {A : am_M} (h : TXs ch L e i A) (hi : i < 900) : ∃ A', g_X5_parseNumber A = some (pI (nmE ch i).1, A') ∧ fr [169] A A' ∧ TXs ch L e (nmE ch i).2.2 A' ∧ ((nmE ch i).1 = 1 → iv A' 169 7 = (nmE ch i).2.1) := by
  have r0 := TC_rng h.1 i
  have r1 := TC_rng h.1 (i + 1)
  have g1 := s_peek h (by omega)
  have g2 := s_isDigit (x := ch i) (M := A) (by omega) (by omega)
  have c48 : ∀ x : Int, pI x - (48 : Int32) = pI (x - 48) := fun x => by rw [show (48 : Int32) = pI 48 from rfl, pi_sub]
  have T1 : TXs ch L e i (am_s A 169 7 (pI (ch i - 48))) := TXs_num h (by omega)
  have T2 : TXs ch L e (i + 1) (am_s (am_s A 169 7 (pI (ch i - 48))) 169 6 (pI (i + 1 : Nat))) := TXs_pos T1 (by omega)
  have c6 : am_g (am_s A 169 7 (pI (ch i - 48))) 169 6 + (1 : Int32) = pI (i + 1 : Nat) := by rw [pi_g, T1.2.2, show (1 : Int32) = pI 1 from rfl, pi_add]; rfl
  obtain ⟨A2, eA2⟩ : ∃ A2, A2 = am_s (am_s A 169 7 (pI (ch i - 48))) 169 6 (pI (i + 1 : Nat)) := ⟨_, rfl⟩
  have f2 : fr [169] A A2 := by rw [eA2]; exact fr_trans (N := am_s A 169 7 (pI (ch i - 48))) (fr_s (by simp)) (fr_s (by simp))
  have v2 : iv A2 169 7 = ch i - 48 := by
    rw [eA2, iv_s (by omega) (by omega), if_neg (by omega), iv_s (by omega) (by omega), if_pos ⟨rfl, rfl⟩]
  rw [← eA2] at T2
  have g3 := s_peek T2 (by omega)
  have g4 := s_isDigit (x := ch (i + 1)) (M := A2) (by omega) (by omega)
  have c7 : am_g A2 169 7 * (10 : Int32) + (pI (ch (i + 1)) - (48 : Int32)) = pI ((ch i - 48) * 10 + (ch (i + 1) - 48)) := by
    rw [pi_g, v2, c48, show (10 : Int32) = pI 10 from rfl, pi_mul, pi_add]
  have T3 : dg (ch i) → dg (ch (i + 1)) → TXs ch L e (i + 1) (am_s A2 169 7 (pI ((ch i - 48) * 10 + (ch (i + 1) - 48)))) := fun h1 h2 => TXs_num T2 (by unfold dg at h1 h2; omega)
  unfold g_X5_parseNumber
  rcases nm_cases ch i with ⟨h1, en⟩ | ⟨h1, h2, en⟩ | ⟨h1, h2, h3, en⟩ | ⟨h1, h2, h3, en⟩
  · rw [if_neg h1] at g2
    rw [en]
    dsimp only
    refine ⟨A, ?_, fr_refl _ _, h, fun q => absurd q (by decide)⟩
    rw [g1, am_b_some, g2, am_b_some, if_pos ci0]
    rfl
  · rw [if_pos h1] at g2
    rw [if_neg h2] at g4
    rw [en]
    dsimp only
    refine ⟨A2, ?_, f2, T2, fun q => v2⟩
    rw [g1, am_b_some, g2, am_b_some, if_neg ci1, g1, am_b_some, c48, c6, ← eA2, g3, am_b_some, g4, am_b_some, if_pos ci0]
    rfl
  · rw [if_pos h1] at g2
    rw [if_pos h2] at g4
    have T3 := T3 h1 h2
    unfold dg at h1 h2
    obtain ⟨v, ev⟩ : ∃ v, v = (ch i - 48) * 10 + (ch (i + 1) - 48) := ⟨_, rfl⟩
    rw [← ev] at T3 c7
    have c8 : am_g (am_s A2 169 7 (pI v)) 169 7 = pI v := by rw [pi_g, iv_s (by omega) (by omega), if_pos ⟨rfl, rfl⟩]
    have c9 : am_g (am_s A2 169 7 (pI v)) 169 6 + (1 : Int32) = pI (i + 2 : Nat) := by rw [pi_g, T3.2.2, show (1 : Int32) = pI 1 from rfl, pi_add]; rfl
    rw [en]
    dsimp only
    refine ⟨am_s (am_s A2 169 7 (pI v)) 169 6 (pI (i + 2 : Nat)), ?_, fr_trans f2 (fr_trans (N := am_s A2 169 7 (pI v)) (fr_s (by simp)) (fr_s (by simp))), TXs_pos T3 (by omega), fun q => ?_⟩
    · rw [g1, am_b_some, g2, am_b_some, if_neg ci1, g1, am_b_some, c48, c6, ← eA2, g3, am_b_some, g4, am_b_some, if_neg ci1, g3, am_b_some, c7, c8, s_isCell _ (by omega) (by omega), if_pos (show 0 ≤ v ∧ v < 40 by omega), am_b_some, if_neg ci1, c9]
      rfl
    · rw [iv_s (by omega) (by omega), if_neg (by omega), iv_s (by omega) (by omega), if_pos ⟨rfl, rfl⟩]
      omega
  · rw [if_pos h1] at g2
    rw [if_pos h2] at g4
    have T3 := T3 h1 h2
    unfold dg at h1 h2
    obtain ⟨v, ev⟩ : ∃ v, v = (ch i - 48) * 10 + (ch (i + 1) - 48) := ⟨_, rfl⟩
    rw [← ev] at T3 c7
    have c8 : am_g (am_s A2 169 7 (pI v)) 169 7 = pI v := by rw [pi_g, iv_s (by omega) (by omega), if_pos ⟨rfl, rfl⟩]
    rw [en]
    dsimp only
    refine ⟨am_s A2 169 7 (pI v), ?_, fr_trans f2 (fr_s (by simp)), T3, fun q => absurd q (by decide)⟩
    rw [g1, am_b_some, g2, am_b_some, if_neg ci1, g1, am_b_some, c48, c6, ← eA2, g3, am_b_some, g4, am_b_some, if_neg ci1, g3, am_b_some, c7, c8, s_isCell _ (by omega) (by omega), if_neg (show ¬ (0 ≤ v ∧ v < 40) by omega), am_b_some, if_pos ci0]
    rfl
theorem s_parseSign {ch : Nat → Int} {L e i : Nat} {s : Int} {A : am_M} (h : TXs ch L e i A) (hi : i < 900) (hs : 0 ≤ s ∧ s < 1000) : (ch i = s ∧ g_X5_parseSign (pI s) A = some (pI 1, am_s A 169 6 (pI (i + 1 : Nat))) ∧ TXs ch L e (i + 1) (am_s A 169 6 (pI (i + 1 : Nat)))) ∨ (ch i ≠ s ∧ g_X5_parseSign (pI s) A = some (pI 0, A)) := by
  have r0 := TC_rng h.1 i
  have g1 := s_peek h (by omega)
  have c6 : am_g A 169 6 + (1 : Int32) = pI (i + 1 : Nat) := by rw [pi_g, h.2.2, show (1 : Int32) = pI 1 from rfl, pi_add]; rfl
  unfold g_X5_parseSign
  rw [g1, am_b_some, c6]
  by_cases c : ch i = s
  · left
    rw [if_pos (congrArg pI c)]
    exact ⟨c, rfl, TXs_pos h (by omega)⟩
  · right
    rw [if_neg (show ¬ (pI (ch i) = pI s) by rw [pi_eq (by omega) (by omega) (by omega) (by omega)]; exact c)]
    exact ⟨c, rfl⟩
end SJ
