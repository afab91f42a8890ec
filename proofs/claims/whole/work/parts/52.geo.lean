/-! what a new plan leaves as it was -/
section QK
theorem folF_low {σ : Nat → Int} {r n : Nat} {α : Nat → Int} {k : Nat} (hk : k < 88) : folF σ r α n k = σ k := by
  unfold folF reoF
  rw [if_neg (by omega), if_neg (by omega)]
  split
  · rfl
  · rw [if_neg (by omega), if_neg (by omega), if_neg (by omega)]
theorem folF_other {σ : Nat → Int} {r n : Nat} {α : Nat → Int} {o : Nat} (hn : n ≤ 30) (hr : r < 5) (ho : o < 5) (h : o ≠ r) {k : Nat} (hk : k < 42) : ro (folF σ r α n) o k = ro σ o k := by
  rw [ro_nat, ro_nat]
  unfold folF reoF
  rw [if_neg (by omega), if_neg (by omega)]
  split
  · rfl
  · rw [if_neg (by omega), if_neg (by omega), if_neg (by omega)]
theorem folF_own {σ : Nat → Int} {r n : Nat} {α : Nat → Int} (hr : r < 5) {k : Nat} (hk : k < 11) (h2 : k ≠ 2) (h4 : k ≠ 4) : ro (folF σ r α n) r k = ro σ r k := by
  rw [ro_nat, ro_nat]
  unfold folF reoF
  rw [if_neg (by omega), if_neg (by omega)]
  split
  · rfl
  · rw [if_neg (by omega), if_neg (by omega), if_neg (by omega)]
theorem folF_two {σ : Nat → Int} {r n : Nat} {α : Nat → Int} : ro (folF σ r α n) r 2 = n := by
  have := ro_nat (folF σ r α n) r 2
  rw [show ((2 : Nat) : Int) = 2 from rfl] at this
  rw [this]
  unfold folF
  rw [if_neg (by omega), if_pos (by omega)]
theorem folF_four {σ : Nat → Int} {r n : Nat} {α : Nat → Int} (hr : r < 5) : ro (folF σ r α n) r 4 = -1 := by
  have := ro_nat (folF σ r α n) r 4
  rw [show ((4 : Nat) : Int) = 4 from rfl] at this
  rw [this]
  have h4 := ro_nat σ r 4
  rw [show ((4 : Nat) : Int) = 4 from rfl] at h4
  unfold folF reoF
  rw [if_neg (by omega), if_neg (by omega)]
  by_cases h : ro σ r 4 = -1
  · rw [if_pos h, ← h4, h]
  · rw [if_neg h, if_pos (by omega)]
theorem folF_ac {σ : Nat → Int} {r n : Nat} {α : Nat → Int} {k : Nat} (hk : k < n) : ac (folF σ r α n) r k = α k := by
  rw [ac_nat]
  unfold folF
  rw [if_pos (by omega), show 99 + 42 * r + k - (99 + 42 * r) = k by omega]
theorem folF_it {σ : Nat → Int} {r n : Nat} {α : Nat → Int} (hn : n ≤ 30) (hr : r < 5) (h4 : -1 ≤ ro σ r 4) {j k : Nat} (hk : k < 9) : it (folF σ r α n) j k = if ro σ r 4 = j ∧ k = 4 then 0 else if ro σ r 4 = j ∧ k = 6 then -1 else it σ j k := by
  rw [it_nat, it_nat]
  unfold folF reoF
  rw [if_neg (by omega), if_neg (by omega)]
  by_cases h : ro σ r 4 = -1
  · rw [if_pos h, if_neg (by omega), if_neg (by omega)]
  · rw [if_neg h, if_neg (by omega)]
    by_cases h1 : ro σ r 4 = j
    · by_cases h2 : k = 6
      · rw [if_pos (by omega), if_neg (by omega), if_pos ⟨h1, h2⟩]
      · by_cases h3 : k = 4
        · rw [if_neg (by omega), if_pos (by omega), if_pos ⟨h1, h3⟩]
        · rw [if_neg (by omega), if_neg (by omega), if_neg (by omega), if_neg (by omega)]
    · rw [if_neg (by omega), if_neg (by omega), if_neg (fun q => h1 q.1), if_neg (fun q => h1 q.1)]
theorem folF_NR {σ : Nat → Int} {r n : Nat} {α : Nat → Int} (hr : r < 5) (h3 : ro σ r 3 = 0) : NR σ (folF σ r α n) r α n := by
  have e0 := folF_own (σ := σ) (α := α) (n := n) hr (k := 0) (by omega) (by omega) (by omega)
  have e3 := folF_own (σ := σ) (α := α) (n := n) hr (k := 3) (by omega) (by omega) (by omega)
  exact ⟨e0, folF_two, by rw [← h3]; exact e3, fun k hk => folF_ac hk⟩
/-- the new plan keeps robots apart -/
theorem geo_new {σ τ : Nat → Int} (hO : OK σ) (hk : ∀ k : Nat, k < 88 → τ k = σ k) {r n : Nat} {act : Nat → Int} (hr : (r : Int) < σ 6) (hSR : ∀ o : Nat, o < 5 → o ≠ r → SR σ τ o) (hNR : NR σ τ r act n) (hL : LG σ r (-1) (ro σ r 0) act n) (h3 : ro σ r 3 = 0) : (∀ o : Nat, (o : Int) < σ 6 → wr τ o ∧ ∀ t : Nat, 0 ≤ fp τ o t → τ (8 + fp τ o t).toNat ≠ 1) ∧ ∀ a b : Nat, (a : Int) < σ 6 → (b : Int) < σ 6 → a ≠ b → ∀ t : Nat, 0 ≤ fp τ a t → fp τ b t ≠ fp τ a t := by
  obtain ⟨hC, hwl, h6, h7, hkd, hRF, hTF, hNC⟩ := hO
  have hk6 : ∀ k : Nat, k < 6 → τ k = σ k := fun k h => hk k (by omega)
  have hwr := wr_NR hk6 hwl hNR hL
  have hc := ro_cell (hRF r hr).1
  have hz : fp σ r 0 = ro σ r 0 := fp_zero h3
  have h0 : fre σ r (-1) (ro σ r 0) 0 := by
    refine ⟨?_, fun o ho h1 h2 => ?_⟩
    · have := (hRF r hr).2.1 0 (by omega)
      rw [hz] at this
      exact this
    · have := hNC r o hr ho (fun e => h1.1 (by rw [e])) 0 (by omega)
      rw [hz] at this
      exact this h2
  have hnew : ∀ t : Nat, 0 ≤ fp τ r t → σ (8 + fp τ r t).toNat ≠ 1 ∧ ∀ o : Nat, (o : Int) < σ 6 → o ≠ r → fp σ o t ≠ fp τ r t := by
    intro t ht
    by_cases h30 : t ≤ 30
    · have := fp_NR hk6 hwl hNR hL h0 h30 ht
      exact ⟨this.1, fun o ho hne => this.2 o ho ⟨by omega, by omega⟩⟩
    · have e1 : fp τ r t = fp τ r 30 := by rw [(fp_30 hwr (t := t) (by omega)).1, (fp_30 hwr (t := 30) (by omega)).1]
      rw [e1] at ht ⊢
      have := fp_NR hk6 hwl hNR hL h0 (t := 30) (by omega) ht
      refine ⟨this.1, fun o ho hne => ?_⟩
      rw [(fp_30 (hRF o ho).1 (t := t) (by omega)).1, ← (fp_30 (hRF o ho).1 (t := 30) (by omega)).1]
      exact this.2 o ho ⟨by omega, by omega⟩
  have hold : ∀ o : Nat, (o : Int) < σ 6 → o ≠ r → ∀ t, fp τ o t = fp σ o t := fun o ho hne t => fp_SR hk6 hwl (hSR o (by omega) hne) (hRF o ho).1 t
  refine ⟨fun o ho => ?_, fun a b ha hb hne t ht => ?_⟩
  · by_cases h : o = r
    · subst h
      refine ⟨hwr, fun t ht => ?_⟩
      have hu := fp_rng hwr t
      rw [hk _ (by omega)]
      exact (hnew t ht).1
    · refine ⟨wr_SR hk6 hwl (hSR o (by omega) h) (hRF o ho).1, fun t ht => ?_⟩
      have hu := fp_rng (hRF o ho).1 t
      rw [hold o ho h] at ht ⊢
      rw [hk _ (by omega)]
      exact (hRF o ho).2.1 t ht
  · by_cases h : a = r
    · subst h
      rw [hold b hb (fun e => hne e.symm)]
      exact (hnew t ht).2 b hb (fun e => hne e.symm)
    · by_cases h' : b = r
      · subst h'
        intro e
        rw [hold a ha h] at e
        rw [hold a ha h, ← e] at ht
        exact (hnew t ht).2 a ha h e.symm
      · rw [hold a ha h] at ht ⊢
        rw [hold b hb h']
        exact hNC a b ha hb hne t ht
end QK
