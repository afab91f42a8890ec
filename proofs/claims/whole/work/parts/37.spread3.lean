/-! a tick of the class is a step of the table -/
section PI
theorem RT_succ {σ : Nat → Int} {r wo : Int} {M : am_M} (h : FM σ r wo M) (hwl : wl σ) (P : Nat → Int → Prop) {t t' x : Nat} (ht : t < 30) (ht' : t' ≤ 30) (hx : x < 40) : (∃ y a : Int, (0 ≤ y ∧ y < 40) ∧ P t y ∧ (0 ≤ a ∧ a < 7) ∧ leg σ r wo y a t ∧ (t' : Int) = (t : Nat) + tk a ∧ (x : Int) = mvs σ y a) ↔ ((t' = t + 1 ∧ pb (am_lg M 162 (t + 1)) x = false ∧ (P t x ∨ ∃ a d : Nat, 1 ≤ a ∧ a ≤ 4 ∧ d < 40 ∧ P t d ∧ pb (am_lg M 163 (7 * t + a)) d = false ∧ nb d a = x)) ∨ (t' = t + 3 ∧ pb (am_lg M 162 (t + 3)) x = false ∧ ∃ l d : Nat, (l : Int) < σ 1 ∧ d < 40 ∧ P t d ∧ pb (am_lg M 163 (7 * t + 5 + l)) d = false ∧ rd σ d l = x)) := by
  constructor
  · rintro ⟨y, a, hy, hP, ha, hl, e1, e2⟩
    obtain ⟨d, rfl⟩ : ∃ d : Nat, y = d := ⟨y.toNat, by omega⟩
    by_cases h0 : a = 0
    · subst h0
      rw [mvs_zero] at e2
      rw [tk_zero] at e1
      have : x = d := by omega
      subst this
      exact Or.inl ⟨by omega, (leg_wait h ht hx).mp hl, Or.inl hP⟩
    · by_cases h4 : a < 5
      · obtain ⟨b, rfl⟩ : ∃ b : Nat, a = b := ⟨a.toNat, by omega⟩
        rw [tk_one h4] at e1
        have hm : nb d b = x := by
          unfold mvs at e2
          rw [if_neg h0, if_pos h4] at e2
          exact e2.symm
        have h5 := (leg_move h ht (by omega) (by omega) hx hm).mp hl
        exact Or.inl ⟨by omega, h5.1, Or.inr ⟨b, d, by omega, by omega, by omega, hP, h5.2, hm⟩⟩
      · obtain ⟨l, rfl⟩ : ∃ l : Nat, a = (5 + l : Nat) := ⟨(a - 5).toNat, by omega⟩
        rw [tk_ride (by omega)] at e1
        have hm : rd σ d l = x := by
          unfold mvs at e2
          rw [if_neg h0, if_neg h4, show ((5 + l : Nat) : Int) - 5 = l by omega] at e2
          exact e2.symm
        have h6 : (l : Int) < σ 1 := by
          by_cases h7 : (l : Int) < σ 1
          · exact h7
          · unfold rd at hm
            rw [if_neg h7] at hm
            omega
        have h5 := (leg_ride h (by omega) (by omega) (by omega) hx hm).mp hl
        exact Or.inr ⟨by omega, h5.1, l, d, h6, by omega, hP, h5.2, hm⟩
  · rintro (⟨e1, h1, hP | ⟨a, d, ha1, ha2, hd, hP, h2, hm⟩⟩ | ⟨e1, h1, l, d, hl, hd, hP, h2, hm⟩)
    · exact ⟨x, 0, by omega, hP, by omega, (leg_wait h ht hx).mpr h1, by rw [tk_zero]; omega, (mvs_zero _ _).symm⟩
    · refine ⟨d, a, by omega, hP, by omega, (leg_move h ht hd ⟨ha1, ha2⟩ hx hm).mpr ⟨h1, h2⟩, by rw [tk_one (by omega)]; omega, ?_⟩
      unfold mvs
      rw [if_neg (by omega), if_pos (by omega), hm]
    · have h3 := hwl.1
      refine ⟨d, (5 + l : Nat), by omega, hP, by omega, (leg_ride h (by omega) hd (by omega) hx hm).mpr ⟨h1, h2⟩, by rw [tk_ride (by omega)]; omega, ?_⟩
      unfold mvs
      rw [if_neg (by omega), if_neg (by omega), show ((5 + l : Nat) : Int) - 5 = l by omega, hm]
end PI
