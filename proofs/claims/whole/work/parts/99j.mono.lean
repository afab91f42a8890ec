/-! a robot less in the way; an idle robot's row -/
section SF
theorem fre_mono {σ τ : Nat → Int} {r wo q : Int} (h88 : ∀ k : Nat, k < 88 → τ k = σ k) (hwl : wl σ) (hw : ∀ o : Nat, (o : Int) < σ 6 → wr σ o) (hS : ∀ o : Nat, (o : Int) < σ 6 → ot r q o → SR σ τ o) (hot : ∀ o : Nat, ot r q o → ot r wo o) {c : Int} {t : Nat} (hc : 0 ≤ c ∧ c < 40) (h : fre τ r wo c t) : fre σ r q c t := by
  refine ⟨by rw [← h88 _ (by omega)]; exact h.1, fun o ho h1 => ?_⟩
  rw [← fp_SR (fun k hk => h88 k (by omega)) hwl (hS o ho h1) (hw o ho)]
  exact h.2 o (by rw [h88 6 (by omega)]; exact ho) (hot o h1)
theorem leg_mono {σ τ : Nat → Int} {r wo q : Int} (h88 : ∀ k : Nat, k < 88 → τ k = σ k) (hwl : wl σ) (hw : ∀ o : Nat, (o : Int) < σ 6 → wr σ o) (hS : ∀ o : Nat, (o : Int) < σ 6 → ot r q o → SR σ τ o) (hot : ∀ o : Nat, ot r q o → ot r wo o) {y a : Int} {t : Nat} (hy : 0 ≤ y ∧ y < 40) (ha : 0 ≤ a ∧ a < 7) (h : leg τ r wo y a t) : leg σ r q y a t := by
  have hm : mvs τ y a = mvs σ y a := mvs_congr (fun k hk => h88 k (by omega)) hwl y a
  have hr := mvs_rng hwl hy ha
  obtain ⟨h1, h2, h3, h4⟩ := h
  rw [hm] at h1 h3 h4
  refine ⟨h1, h2, fre_mono h88 hwl hw hS hot (by omega) h3, ?_⟩
  have e6 : τ 6 = σ 6 := h88 6 (by omega)
  by_cases c : 5 ≤ a
  · rw [if_pos c] at h4 ⊢
    intro o ho h5 k hk1 hk2
    rw [← fl_SR (fun k hk => h88 k (by omega)) hwl (hS o ho h5) (hw o ho)]
    exact h4 o (by rw [e6]; exact ho) (hot o h5) k hk1 hk2
  · rw [if_neg c] at h4 ⊢
    refine h4.imp id (fun h5 h6 => h5 ?_)
    obtain ⟨o, ho, h7, h8, h9⟩ := h6
    refine ⟨o, by rw [e6]; exact ho, hot o h7, ?_, ?_⟩
    · rw [fp_SR (fun k hk => h88 k (by omega)) hwl (hS o ho h7) (hw o ho)]; exact h8
    · rw [fp_SR (fun k hk => h88 k (by omega)) hwl (hS o ho h7) (hw o ho)]; exact h9
theorem RT_less {σ τ : Nat → Int} {r wo q : Int} (h88 : ∀ k : Nat, k < 88 → τ k = σ k) (hwl : wl σ) (hw : ∀ o : Nat, (o : Int) < σ 6 → wr σ o) (hS : ∀ o : Nat, (o : Int) < σ 6 → ot r q o → SR σ τ o) (hot : ∀ o : Nat, ot r q o → ot r wo o) {f : Nat} {c : Int} : ∀ (n t : Nat) (x : Int), RT τ r wo f c n t x → RT σ r q f c n t x
  | 0, t, x, h => h
  | n + 1, t, x, h => by
    rcases h with h | ⟨y, a, h1, h2, h3, h4, h5, h6⟩
    · exact Or.inl (RT_less h88 hwl hw hS hot n t x h)
    · refine Or.inr ⟨y, a, h1, RT_less h88 hwl hw hS hot n _ y h2, h3, leg_mono h88 hwl hw hS hot h1 h3 h4, h5, ?_⟩
      rw [h6]
      exact mvs_congr (fun k hk => h88 k (by omega)) hwl y a
theorem rex_mono {σ τ : Nat → Int} {r wo q g : Int} (h88 : ∀ k : Nat, k < 88 → τ k = σ k) (hwl : wl σ) (hw : ∀ o : Nat, (o : Int) < σ 6 → wr σ o) (hS : ∀ o : Nat, (o : Int) < σ 6 → ot r q o → SR σ τ o) (hot : ∀ o : Nat, ot r q o → ot r wo o) (hg : 0 ≤ g ∧ g < 40) (h0 : ro τ r 0 = ro σ r 0) (h : rex τ r wo g) : rex σ r q g := by
  obtain ⟨e, he, h1, h2⟩ := h
  rw [h0] at h1
  exact ⟨e, he, RT_less h88 hwl hw hS hot _ _ _ h1, fun hf k hk1 hk2 => fre_mono h88 hwl hw hS hot hg (h2 hf k hk1 hk2)⟩
theorem pl_rex {σ : Nat → Int} {r : Nat} {g : Int} {e : Nat} (h : pl σ r g e) : rex σ r (-1) g := by
  obtain ⟨α, n, h1, _, _⟩ := h
  obtain ⟨e', _, h2, h3⟩ := rtg_ok h1
  exact ⟨e', h2, h3⟩
theorem fp_idle {σ : Nat → Int} {r : Int} (h : wr σ r) (h2 : ro σ r 2 = 0) (t : Nat) : fp σ r t = ro σ r 0 := by
  obtain ⟨v1, v2⟩ := fs_inv h t
  obtain ⟨a1, a2, a3⟩ := v2 (by omega)
  unfold fp
  rw [a2, if_neg (by omega), a1, h2]
  rfl
theorem idle_facts {σ : Nat → Int} (hO : OK σ) {o : Nat} (ho : (o : Int) < σ 6) (h2 : ro σ o 2 = 0) : ro σ o 3 = 0 ∧ ro σ o 4 = -1 := by
  have hRF := hO.2.2.2.2.2.1 o ho
  constructor
  · have a1 := hRF.1.2.2.2.1
    by_cases h : 0 < ro σ o 3
    · have := hRF.1.2.2.2.2.1 h
      omega
    · omega
  · have a1 := hRF.2.2.2.1
    by_cases h : 0 ≤ ro σ o 4
    · have := (hRF.2.2.2.2 h).1
      omega
    · omega
theorem fol_back {σ : Nat → Int} {o n : Nat} {α β : Nat → Int} (ho : o < 5) (hn : n ≤ 30) (h4 : ro σ o 4 = -1) (h2 : ro σ o 2 = 0) : ∀ k : Nat, ¬ (99 + 42 * o ≤ k ∧ k < 130 + 42 * o) → folF (folF σ o α n) o β 0 k = σ k := by
  intro k hk
  have e4 : ro (folF σ o α n) o 4 = -1 := folF_four ho
  have h2' : σ (88 + 42 * o + 2) = 0 := by rw [← ro_nat σ o 2]; exact h2
  show (if 99 + 42 * o ≤ k ∧ k < 99 + 42 * o + 0 then β (k - (99 + 42 * o)) else if k = 90 + 42 * o then ((0 : Nat) : Int) else reoF (folF σ o α n) o k) = σ k
  rw [if_neg (by omega)]
  by_cases e : k = 90 + 42 * o
  · rw [if_pos e, e, show 90 + 42 * o = 88 + 42 * o + 2 by omega, h2']
    rfl
  · rw [if_neg e]
    unfold reoF
    rw [if_pos e4]
    show (if 99 + 42 * o ≤ k ∧ k < 99 + 42 * o + n then α (k - (99 + 42 * o)) else if k = 90 + 42 * o then (n : Int) else reoF σ o k) = σ k
    rw [if_neg (by omega), if_neg e]
    unfold reoF
    rw [if_pos h4]
theorem WD_idle {σ τ : Nat → Int} {A : am_M} {o : Nat} (hO : OK σ) (ho : (o : Int) < σ 6) (h2 : ro σ o 2 = 0) (h : ∀ k : Nat, ¬ (99 + 42 * o ≤ k ∧ k < 130 + 42 * o) → τ k = σ k) (hW : WD σ 1 A) : WD τ 1 A := by
  have hwl := hO.2.1
  have h6 := hO.2.2.1
  have e0 := h 0 (by omega)
  have e6 := h 6 (by omega)
  have e7 := h 7 (by omega)
  obtain ⟨W1, W2, W3, W4, W5⟩ := hW
  have hit : ∀ j k : Nat, it τ j k = it σ j k := fun j k => by rw [it_nat, it_nat]; exact h _ (by omega)
  refine ⟨FLw_low (fun k hk => h k (by omega)) hwl W1, by rw [e0, e6, e7]; exact W2, fun c hc => by rw [h _ (by omega)]; exact W3 c hc, fun i hi => ?_, fun j hj => ?_⟩
  · rw [e6] at hi
    by_cases e : i = o
    · subst e
      obtain ⟨b1, b2, b3, b4, b5⟩ := W4 i hi
      have hro : ∀ k : Nat, k < 11 → ro τ i k = ro σ i k := fun k hk => by rw [ro_nat, ro_nat]; exact h _ (by omega)
      have r0 : ro τ i 0 = ro σ i 0 := hro 0 (by omega)
      have r1 : ro τ i 1 = ro σ i 1 := hro 1 (by omega)
      have r2 : ro τ i 2 = ro σ i 2 := hro 2 (by omega)
      have r3 : ro τ i 3 = ro σ i 3 := hro 3 (by omega)
      have r4 : ro τ i 4 = ro σ i 4 := hro 4 (by omega)
      have r10 : ro τ i 10 = ro σ i 10 := hro 10 (by omega)
      refine ⟨?_, by rw [r1]; exact b2, by rw [r4]; exact b3, by rw [e0, r10]; exact b4, fun k hk => (b5 k hk).trans (hro (5 + k) (by omega)).symm⟩
      obtain ⟨b, n, q1, q2, q3, q4, q5, q6, q7, q8⟩ := b1
      have n0 : n = 0 := by omega
      subst n0
      refine ⟨b, 0, by rw [r2]; exact q1, q2, q3, q4, by rw [r3, e0]; exact q5, fun k j hk => by omega, ?_, q8⟩
      show iv A _ (b + 0) = ro τ i 0
      rw [r0]
      exact q7
    · refine RB_SR (fun k hk => h k (by omega)) hwl (fun k hk => ?_) ((hO.2.2.2.2.2.1 i hi).1.1.2) (W4 i hi)
      rw [ro_nat, ro_nat]
      exact h _ (by omega)
  · rw [e7] at hj
    exact (TB_iff (fun k => it σ j k) (fun k hk => hit j k)).mpr ((TB_iff (fun k => it σ j k) (fun k _ => rfl)).mp (W5 j hj))
/-- an idle robot that was planned and is put back -/
theorem OK_back {σ : Nat → Int} (hO : OK σ) {o n : Nat} {α β : Nat → Int} (ho : (o : Int) < σ 6) (h2 : ro σ o 2 = 0) (hn : n ≤ 30) (hO2 : OK (folF σ o α n)) : OK (folF (folF σ o α n) o β 0) := by
  have h6 := hO.2.2.1
  obtain ⟨h3, h4⟩ := idle_facts hO ho h2
  have e6 : folF σ o α n 6 = σ 6 := folF_low (by omega)
  have r0 : ro (folF σ o α n) o 0 = ro σ o 0 := folF_own (k := 0) (by omega) (by omega) (by omega) (by omega)
  have r3 : ro (folF σ o α n) o 3 = ro σ o 3 := folF_own (k := 3) (by omega) (by omega) (by omega) (by omega)
  have hcell := ro_cell (hO.2.2.2.2.2.1 o ho).1
  have hfi : ∀ t, fp σ o t = ro σ o 0 := fp_idle (hO.2.2.2.2.2.1 o ho).1 h2
  refine OK_fol hO2 (by rw [e6]; exact ho) (by rw [r3]; exact h3) (by omega) (LG_rest hO2 (by rw [e6]; exact ho) (fun t ht => ?_))
  rw [r0]
  refine ⟨?_, fun i hi hne => ?_⟩
  · rw [folF_low (by omega)]
    have := (hO.2.2.2.2.2.1 o ho).2.1 0 (by rw [hfi]; omega)
    rw [hfi] at this
    exact this
  · rw [e6] at hi
    have hio : i ≠ o := fun q => hne.1 (by rw [q])
    have hSR : SR σ (folF σ o α n) i := fun k hk _ => folF_other hn (by omega) (by omega) hio hk
    rw [fp_SR (fun k hk => folF_low (by omega)) hO.2.1 hSR (hO.2.2.2.2.2.1 i hi).1]
    have := hO.2.2.2.2.2.2.2 o i ho hi (fun q => hio q.symm) t (by rw [hfi]; omega)
    rw [hfi] at this
    exact this
end SF
