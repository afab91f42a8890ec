/-! how a task would be served -/
section RL
def hh (σ : Nat → Int) (j e1 : Nat) : Nat := max e1 (it σ j 2 - σ 0).toNat
def wok (σ : Nat → Int) (j r e1 : Nat) : Prop := hh σ j e1 ≤ 30 ∧ ∀ t : Nat, e1 < t → t ≤ hh σ j e1 → fre σ r (-1) (it σ j 0) t
def sv4 (σ : Nat → Int) (j r : Nat) (w : Int) (α : Nat → Int) (n m h : Nat) : Prop := (w = 4 ∧ ∀ e, h ≤ e → e ≤ 30 → ¬ okE σ r (-1) h (it σ j 0) (it σ j 1) 1 e) ∨ ∃ n2, rtg σ r (-1) h (it σ j 0) (it σ j 1) 1 (fun k => α (m + k)) n2 ∧ n = m + n2 ∧ w = (if it σ j 3 < σ 0 + lt α n then 5 else if ro σ r 1 < lco α n then 6 else 0)
def sv3 (σ : Nat → Int) (j r : Nat) (w : Int) (α : Nat → Int) (n n1 e1 : Nat) : Prop := (w = 3 ∧ ¬ wok σ j r e1) ∨ (wok σ j r e1 ∧ (∀ k, n1 ≤ k → k < n1 + (hh σ j e1 - e1) → α k = 0) ∧ sv4 σ j r w α n (n1 + (hh σ j e1 - e1)) (hh σ j e1))
def sv2 (σ : Nat → Int) (j r : Nat) (w : Int) (α : Nat → Int) (n : Nat) : Prop := (w = 2 ∧ ∀ e, e ≤ 30 → ¬ okE σ r (-1) 0 (ro σ r 0) (it σ j 0) 0 e) ∨ ∃ n1, rtg σ r (-1) 0 (ro σ r 0) (it σ j 0) 0 α n1 ∧ sv3 σ j r w α n n1 (lt α n1)
def sv (σ : Nat → Int) (j r : Nat) (w : Int) (α : Nat → Int) (n : Nat) : Prop := (w = 1 ∧ 0 < ro σ r 3) ∨ (ro σ r 3 = 0 ∧ sv2 σ j r w α n)
theorem lt_shift (α : Nat → Int) (m k : Nat) : lt α (m + k) = lt α m + lt (fun i => α (m + i)) k := by
  induction k with
  | zero => rfl
  | succ k ih => rw [← Nat.add_assoc, lt, lt, ih]; omega
theorem lc_shift (σ : Nat → Int) (c : Int) (α : Nat → Int) (m k : Nat) : lc σ c α (m + k) = lc σ (lc σ c α m) (fun i => α (m + i)) k := by
  induction k with
  | zero => rfl
  | succ k ih => rw [← Nat.add_assoc, lc, lc, ih]
theorem lco_shift (α : Nat → Int) (m k : Nat) : lco α (m + k) = lco α m + lco (fun i => α (m + i)) k := by
  induction k with
  | zero => show lco α m = lco α m + 0; omega
  | succ k ih => rw [← Nat.add_assoc, lco, lco, ih]; omega
theorem lt_zeros {α : Nat → Int} {m z : Nat} (h : ∀ k, m ≤ k → k < m + z → α k = 0) : lt α (m + z) = lt α m + z := by
  induction z with
  | zero => rfl
  | succ z ih => rw [← Nat.add_assoc, lt, ih (fun k h1 h2 => h k h1 (by omega)), h (m + z) (by omega) (by omega), tk_zero]; omega
theorem lc_zeros {σ : Nat → Int} {c : Int} {α : Nat → Int} {m z : Nat} (h : ∀ k, m ≤ k → k < m + z → α k = 0) : lc σ c α (m + z) = lc σ c α m := by
  induction z with
  | zero => rfl
  | succ z ih => rw [← Nat.add_assoc, lc, ih (fun k h1 h2 => h k h1 (by omega)), h (m + z) (by omega) (by omega), mvs_zero]
theorem lco_zeros {α : Nat → Int} {m z : Nat} (h : ∀ k, m ≤ k → k < m + z → α k = 0) : lco α (m + z) = lco α m := by
  induction z with
  | zero => rfl
  | succ z ih =>
    rw [← Nat.add_assoc, lco, ih (fun k h1 h2 => h k h1 (by omega)), h (m + z) (by omega) (by omega)]
    show lco α m + cst 0 = lco α m
    have : cst 0 = 0 := rfl
    omega
theorem sv_uniq {σ : Nat → Int} {j r : Nat} {w w' : Int} {α β : Nat → Int} {n m : Nat} (h : sv σ j r w α n) (h2 : sv σ j r w' β m) : w = w' ∧ (w = 0 → n = m ∧ ∀ k, k < n → α k = β k) := by
  rcases h with ⟨rfl, a1⟩ | ⟨a1, h⟩
  · rcases h2 with ⟨rfl, b1⟩ | ⟨b1, h2⟩
    · exact ⟨rfl, fun q => by omega⟩
    · omega
  · rcases h2 with ⟨rfl, b1⟩ | ⟨b1, h2⟩
    · omega
    · rcases h with ⟨rfl, a2⟩ | ⟨n1, a2, h⟩
      · rcases h2 with ⟨rfl, b2⟩ | ⟨m1, b2, h2⟩
        · exact ⟨rfl, fun q => by omega⟩
        · obtain ⟨e, _, e1, e2⟩ := rtg_ok b2
          exact absurd e2 (a2 e e1)
      · rcases h2 with ⟨rfl, b2⟩ | ⟨m1, b2, h2⟩
        · obtain ⟨e, _, e1, e2⟩ := rtg_ok a2
          exact absurd e2 (b2 e e1)
        · obtain ⟨rfl, e1⟩ := rtg_uniq a2 b2
          have elt := lt_congr e1
          unfold sv3 at h h2
          rw [← elt] at h2
          rcases h with ⟨rfl, a3⟩ | ⟨a3, a4, h⟩
          · rcases h2 with ⟨rfl, b3⟩ | ⟨b3, b4, h2⟩
            · exact ⟨rfl, fun q => by omega⟩
            · exact absurd b3 a3
          · rcases h2 with ⟨rfl, b3⟩ | ⟨b3, b4, h2⟩
            · exact absurd a3 b3
            · rcases h with ⟨rfl, a5⟩ | ⟨n2, a5, rfl, a6⟩
              · rcases h2 with ⟨rfl, b5⟩ | ⟨m2, b5, rfl, b6⟩
                · exact ⟨rfl, fun q => by omega⟩
                · obtain ⟨e, e1, e2, e3⟩ := rtg_ok b5
                  exact absurd e3 (a5 e e1 e2)
              · rcases h2 with ⟨rfl, b5⟩ | ⟨m2, b5, rfl, b6⟩
                · obtain ⟨e, e1, e2, e3⟩ := rtg_ok a5
                  exact absurd e3 (b5 e e1 e2)
                · obtain ⟨rfl, e2⟩ := rtg_uniq a5 b5
                  have hall : ∀ k, k < n1 + (hh σ j (lt α n1) - lt α n1) + n2 → α k = β k := fun k hk => by
                    by_cases c1 : k < n1
                    · exact e1 k c1
                    · by_cases c2 : k < n1 + (hh σ j (lt α n1) - lt α n1)
                      · rw [a4 k (by omega) c2, b4 k (by omega) c2]
                      · have := e2 (k - (n1 + (hh σ j (lt α n1) - lt α n1))) (by omega)
                        rw [show n1 + (hh σ j (lt α n1) - lt α n1) + (k - (n1 + (hh σ j (lt α n1) - lt α n1))) = k by omega] at this
                        exact this
                  refine ⟨?_, fun _ => ⟨rfl, hall⟩⟩
                  rw [a6, b6, lt_congr hall, lco_congr hall]
/-- a robot that stands somewhere is free there now -/
theorem fre_now {σ : Nat → Int} (hO : OK σ) {r : Nat} (hr : (r : Int) < σ 6) (h3 : ro σ r 3 = 0) : fre σ r (-1) (ro σ r 0) 0 := by
  have hRF := hO.2.2.2.2.2.1
  have hc := ro_cell (hRF r hr).1
  have hz : fp σ r 0 = ro σ r 0 := fp_zero h3
  refine ⟨?_, fun o ho h1 h2 => ?_⟩
  · have := (hRF r hr).2.1 0 (by omega)
    rw [hz] at this
    exact this
  · have := hO.2.2.2.2.2.2.2 r o hr ho (fun e => h1.1 (by rw [e])) 0 (by omega)
    rw [hz] at this
    exact this h2
/-- the goal of a route is free when it is reached -/
theorem rtg_fre {σ : Nat → Int} (hO : OK σ) {r : Nat} (hr : (r : Int) < σ 6) (h3 : ro σ r 3 = 0) {g fin : Int} {α : Nat → Int} {n : Nat} (h : rtg σ r (-1) 0 (ro σ r 0) g fin α n) : fre σ r (-1) g (lt α n) := by
  have hc := ro_cell (hO.2.2.2.2.2.1 r hr).1
  obtain ⟨h1, h2, h4, h5, h6, e, C, hr2, h7, h8⟩ := rtg_facts hO.2.1 hc h
  rw [Nat.zero_add] at h7
  by_cases q : 0 < lt α n
  · have := RT_fre hr2.1.2.2.1.1 (by omega)
    rw [h7]
    exact this
  · have hn := lt_ge α n
    have : n = 0 := by omega
    subst this
    have hg : ro σ r 0 = g := h2
    rw [← hg]
    exact fre_now hO hr h3
theorem sv_LG {σ : Nat → Int} (hO : OK σ) {j r : Nat} (hr : (r : Int) < σ 6) (hj : (j : Int) < σ 7) {α : Nat → Int} {n : Nat} (h : sv σ j r 0 α n) : ro σ r 3 = 0 ∧ LG σ r (-1) (ro σ r 0) α n ∧ lco α n ≤ ro σ r 1 ∧ 0 < n := by
  have hc := ro_cell (hO.2.2.2.2.2.1 r hr).1
  have hT := hO.2.2.2.2.2.2.1 j hj
  rcases h with ⟨h0, _⟩ | ⟨h3, ⟨h0, _⟩ | ⟨n1, q1, ⟨h0, _⟩ | ⟨⟨w1, w2⟩, q2, ⟨h0, _⟩ | ⟨n2, q3, rfl, q4⟩⟩⟩⟩
  · omega
  · omega
  · omega
  · omega
  · refine ⟨h3, ?_⟩
    obtain ⟨a1, a2, a3, a4, a5, a6⟩ := rtg_facts hO.2.1 hc q1
    rw [Nat.zero_add] at a1
    obtain ⟨b1, b2, b3, b4, b5, b6⟩ := rtg_facts hO.2.1 hT.1 q3
    obtain ⟨m, em⟩ : ∃ m, m = n1 + (hh σ j (lt α n1) - lt α n1) := ⟨_, rfl⟩
    have hge : lt α n1 ≤ hh σ j (lt α n1) := Nat.le_max_left _ _
    have hltm : lt α m = hh σ j (lt α n1) := by rw [em, lt_zeros q2]; omega
    have hlcm : lc σ (ro σ r 0) α m = it σ j 0 := by rw [em, lc_zeros q2, a2]
    rw [← em] at q2 q3 q4 b1 b2 b3 b4 b5 b6 ⊢
    have hend : lc σ (ro σ r 0) α (m + n2) = it σ j 1 := by rw [lc_shift, hlcm, b2]
    have hltn : lt α (m + n2) = hh σ j (lt α n1) + lt (fun k => α (m + k)) n2 := by rw [lt_shift, hltm]
    have hq4 : ¬ (ro σ r 1 < lco α (m + n2)) := fun q => by
      by_cases q5 : it σ j 3 < σ 0 + lt α (m + n2)
      · rw [if_pos q5] at q4; omega
      · rw [if_neg q5, if_pos q] at q4; omega
    refine ⟨⟨hc, fun k hk => ?_, by rw [hltn]; exact b1, fun t t1 t2 => ?_⟩, by omega, ?_⟩
    · by_cases c1 : k < n1
      · have := a4 k c1
        rw [Nat.zero_add] at this
        exact this
      · by_cases c2 : k < m
        · have hz := q2 k (by omega) c2
          have hk0 : ∀ i, n1 ≤ i → i < n1 + (k - n1) → α i = 0 := fun i i1 i2 => q2 i i1 (by omega)
          have e1 : lt α k = lt α n1 + (k - n1) := by
            have := lt_zeros hk0
            rw [show n1 + (k - n1) = k by omega] at this
            exact this
          have e2 : lc σ (ro σ r 0) α k = it σ j 0 := by
            have := lc_zeros (σ := σ) (c := ro σ r 0) hk0
            rw [show n1 + (k - n1) = k by omega] at this
            rw [this, a2]
          rw [hz, e2, e1]
          refine ⟨by omega, ?_⟩
          unfold leg
          rw [mvs_zero, tk_zero, if_neg (by omega)]
          have hT0 := hT.1
          refine ⟨by omega, by omega, ?_, Or.inl rfl⟩
          rw [show (((lt α n1 + (k - n1) : Nat) : Int) + 1).toNat = lt α n1 + (k - n1) + 1 by omega]
          exact w2 _ (by omega) (by omega)
        · have := b4 (k - m) (by omega)
          rw [show m + (k - m) = k by omega] at this
          have e2 : lc σ (it σ j 0) (fun k => α (m + k)) (k - m) = lc σ (ro σ r 0) α k := by
            have h5 := lc_shift σ (ro σ r 0) α m (k - m)
            rw [hlcm, show m + (k - m) = k by omega] at h5
            exact h5.symm
          have e3 : hh σ j (lt α n1) + lt (fun k => α (m + k)) (k - m) = lt α k := by
            have h5 := lt_shift α m (k - m)
            rw [hltm, show m + (k - m) = k by omega] at h5
            exact h5.symm
          rw [e2, e3] at this
          exact this
    · rw [hend]
      rw [hltn] at t1
      exact b5 (by omega) t t1 t2
    · by_cases c1 : 0 < m + n2
      · exact c1
      · exfalso
        have e0 : m + n2 = 0 := by omega
        have e1 : m = 0 := by omega
        rw [e0] at hend
        rw [e1] at hlcm
        exact hT.2.2.1 (hlcm.symm.trans hend)
end RL
