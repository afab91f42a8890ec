/-! the loops of makeWay, on both sides -/
section SH
/-- what stands between two steps -/
def MKs (r : Nat) (n6 : Int) (A B : am_M) : Prop := WD (sg B) 1 A ∧ OK (sg B) ∧ iv B 174 11 = -1 ∧ sg B 6 = n6 ∧ ro (sg B) r 3 = 0
def MKf (A A' B B' : am_M) : Prop := fr KD A A' ∧ fr KM B B' ∧ ∀ k, k ≠ 15 → k ≠ 16 → k ≠ 17 → iv B' 174 k = iv B 174 k
theorem MKf_refl (A B : am_M) : MKf A A B B := ⟨fr_refl _ _, fr_refl _ _, fun _ _ _ _ => rfl⟩
theorem MKf_trans {A A' A'' B B' B'' : am_M} (h1 : MKf A A' B B') (h2 : MKf A' A'' B' B'') : MKf A A'' B B'' := ⟨fr_trans h1.1 h2.1, fr_trans h1.2.1 h2.2.1, fun k a1 a2 a3 => by rw [h2.2.2 k a1 a2 a3, h1.2.2 k a1 a2 a3]⟩
theorem MK_fol {σ : Nat → Int} {r o n : Nat} {α : Nat → Int} (hO : OK σ) (hr : (r : Int) < σ 6) (ho : (o : Int) < σ 6) (hro : r ≠ o) (h3 : ro σ r 3 = 0) (hn : n ≤ 30) : folF σ o α n 6 = σ 6 ∧ ro (folF σ o α n) r 3 = 0 ∧ ro (folF σ o α n) r 0 = ro σ r 0 := by
  have h6 := hO.2.2.1
  exact ⟨folF_low (by omega), (folF_other (k := 3) hn (by omega) (by omega) hro (by omega)).trans h3, folF_other (k := 0) hn (by omega) (by omega) hro (by omega)⟩
theorem MK_rexA {σ : Nat → Int} {r o n : Nat} {g : Int} {α : Nat → Int} (hO : OK σ) (hr : (r : Int) < σ 6) (ho : (o : Int) < σ 6) (hro : r ≠ o) (h3 : ro σ r 3 = 0) (hn : n ≤ 30) (hg : 0 ≤ g ∧ g < 40) (h : rex (folF σ o α n) r (-1) g) : rex σ r o g := by
  have h6 := hO.2.2.1
  refine rex_mono (fun k hk => folF_low hk) hO.2.1 (fun i hi => (hO.2.2.2.2.2.1 i hi).1) (fun i hi hot k hk _ => ?_) (fun i hot => ⟨hot.1, by omega⟩) hg (MK_fol hO hr ho hro h3 hn).2.2 h
  have := hot.2
  exact folF_other hn (by omega) (by omega) (by omega) hk
theorem MK_rexB {σ : Nat → Int} {r o n : Nat} {g : Int} {α β : Nat → Int} (hO : OK σ) (hO2 : OK (folF σ o α n)) (hr : (r : Int) < σ 6) (ho : (o : Int) < σ 6) (hro : r ≠ o) (h3 : ro σ r 3 = 0) (hn : n ≤ 30) (hg : 0 ≤ g ∧ g < 40) (h : rex (folF (folF σ o α n) o β 0) r o g) : rex σ r o g := by
  have h6 := hO.2.2.1
  have e1 := MK_fol (α := α) hO hr ho hro h3 hn
  have e2 := MK_fol (σ := folF σ o α n) (α := β) (n := 0) hO2 (by rw [e1.1]; exact hr) (by rw [e1.1]; exact ho) hro e1.2.1 (by omega)
  refine rex_mono (fun k hk => (folF_low hk).trans (folF_low hk)) hO.2.1 (fun i hi => (hO.2.2.2.2.2.1 i hi).1) (fun i hi hot k hk _ => ?_) (fun i hot => hot) hg (e2.2.2.trans e1.2.2) h
  have := hot.2
  exact (folF_other (by omega) (by omega) (by omega) (by omega) hk).trans (folF_other hn (by omega) (by omega) (by omega) hk)
theorem MK_in0 {r o : Nat} {n6 g : Int} (hr : (r : Int) < n6) (ho : (o : Int) < n6) (hro : r ≠ o) (hg : 0 ≤ g ∧ g < 40) : ∀ (d q m : Nat) (A B : am_M), q + d = 40 → d < m → MKs r n6 A B → ro (sg B) o 2 = 0 → ¬ rex (sg B) r o g → ∃ B', g_X10_makeWay_L85 (pI r) (pI g) (pI o) (1 : Int32) m (pI (q : Nat)) B = some (117, B') ∧ MKf A A B B' ∧ MKs r n6 A B'
  | 0, q, m, A, B, hq, hm, hM, hid, hx => by
    obtain ⟨m, rfl⟩ : ∃ g, m = g + 1 := ⟨m - 1, by omega⟩
    refine ⟨B, ?_, MKf_refl A B, hM⟩
    rw [g_X10_makeWay_L85, if_pos (show (40 : Int32) ≤ pI (q : Nat) by rw [show (40 : Int32) = pI 40 from rfl, pi_le (by omega) (by omega) (by omega) (by omega)]; omega)]
  | d + 1, q, m, A, B, hq, hm, hM, hid, hx => by
    obtain ⟨m, rfl⟩ : ∃ g, m = g + 1 := ⟨m - 1, by omega⟩
    obtain ⟨hW, hO, h11, e6, h3⟩ := hM
    have hr' : (r : Int) < sg B 6 := by omega
    have ho' : (o : Int) < sg B 6 := by omega
    have nx : pI (q : Nat) + (1 : Int32) = pI (q + 1 : Nat) := by rw [show (1 : Int32) = pI 1 from rfl, pi_add]; rfl
    obtain ⟨B', f1, k1, h⟩ := MK_mod (q := (q : Int)) rfl hO h11 hr' ho' hro h3 hid hg (by omega)
    have hf : MKf A A B B' := ⟨fr_refl _ _, f1, k1⟩
    have h11' : iv B' 174 11 = -1 := by rw [k1 11 (by omega) (by omega) (by omega)]; exact h11
    have go : g_X10_makes (pI r) (pI g) (pI o) (pI (q : Nat)) B = some (pI 0, B') → MKs r n6 A B' → ro (sg B') o 2 = 0 → ¬ rex (sg B') r o g → ∃ B'', g_X10_makeWay_L85 (pI r) (pI g) (pI o) (1 : Int32) (m + 1) (pI (q : Nat)) B = some (117, B'') ∧ MKf A A B B'' ∧ MKs r n6 A B'' := fun g1 hM' hid' hx' => by
      obtain ⟨B'', g2, f2, hM2⟩ := MK_in0 hr ho hro hg d (q + 1) m A B' (by omega) (by omega) hM' hid' hx'
      refine ⟨B'', ?_, MKf_trans hf f2, hM2⟩
      rw [g_X10_makeWay_L85, if_neg (show ¬ ((40 : Int32) ≤ pI (q : Nat)) by rw [show (40 : Int32) = pI 40 from rfl, pi_le (by omega) (by omega) (by omega) (by omega)]; omega), if_neg (by decide), g1, am_b_some, if_pos ci0, nx]
      exact g2
    rcases h with ⟨g1, e1, q1⟩ | ⟨α, n, ⟨p1, p2, p3, p4⟩, ⟨g1, e1, q1⟩ | ⟨β, m', g1, e1, q1, q2, q3⟩⟩
    · exact go g1 ⟨by rw [e1]; exact hW, by rw [e1]; exact hO, h11', by rw [e1]; exact e6, by rw [e1]; exact h3⟩ (by rw [e1]; exact hid) (by rw [e1]; exact hx)
    · have x1 := MK_fol (α := α) hO hr' ho' hro h3 p3
      have x2 := MK_fol (σ := folF (sg B) o α n) (α := α) (n := 0) p4 (by rw [x1.1]; exact hr') (by rw [x1.1]; exact ho') hro x1.2.1 (by omega)
      have h5 : o < 5 := by have := hO.2.2.1; omega
      refine go g1 ⟨by rw [e1]; exact WD_idle hO ho' hid (fol_back h5 p3 (idle_facts hO ho' hid).2 hid) hW, by rw [e1]; exact OK_back hO ho' hid p3 p4, h11', by rw [e1, x2.1, x1.1]; exact e6, by rw [e1]; exact x2.2.1⟩ (by rw [e1]; exact folF_two) (by rw [e1]; exact fun z => hx (MK_rexB hO p4 hr' ho' hro h3 p3 hg z))
    · exact absurd (MK_rexA hO hr' ho' hro h3 p3 hg (pl_rex ⟨β, m', q1, rfl, q2⟩)) hx
theorem MK_in1 {r o : Nat} {n6 g : Int} (hr : (r : Int) < n6) (ho : (o : Int) < n6) (hro : r ≠ o) (hg : 0 ≤ g ∧ g < 40) : ∀ (d q f m : Nat) (A B : am_M), q + d = 40 → d < f → d < m → MKs r n6 A B → ro (sg B) o 2 = 0 → (∃ A' B', g_X3_moveAside_L49 (pI r) (pI g) (pI o) (1 : Int32) f (pI (q : Nat)) A = some (146, A') ∧ g_X10_makeWay_L85 (pI r) (pI g) (pI o) (1 : Int32) m (pI (q : Nat)) B = some (117, B') ∧ MKf A A' B B' ∧ MKs r n6 A' B') ∨ ∃ A' A'' B', g_X3_moveAside_L49 (pI r) (pI g) (pI o) (1 : Int32) f (pI (q : Nat)) A = some (109, A') ∧ g_X3_adopt (pI r) (-1 : Int32) A' = some ((), A'') ∧ g_X10_makeWay_L85 (pI r) (pI g) (pI o) (1 : Int32) m (pI (q : Nat)) B = some (109, B') ∧ MKf A A'' B B' ∧ WD (sg B') 1 A'' ∧ OK (sg B')
  | 0, q, f, m, A, B, hq, hf0, hm, hM, hid => by
    obtain ⟨f, rfl⟩ : ∃ g, f = g + 1 := ⟨f - 1, by omega⟩
    obtain ⟨m, rfl⟩ : ∃ g, m = g + 1 := ⟨m - 1, by omega⟩
    have c40 : (40 : Int32) ≤ pI (q : Nat) := by rw [show (40 : Int32) = pI 40 from rfl, pi_le (by omega) (by omega) (by omega) (by omega)]; omega
    refine Or.inl ⟨A, B, ?_, ?_, MKf_refl A B, hM⟩
    · rw [g_X3_moveAside_L49, if_neg (by decide), if_pos c40]
    · rw [g_X10_makeWay_L85, if_pos c40]
  | d + 1, q, f, m, A, B, hq, hf0, hm, hM, hid => by
    obtain ⟨f, rfl⟩ : ∃ g, f = g + 1 := ⟨f - 1, by omega⟩
    obtain ⟨m, rfl⟩ : ∃ g, m = g + 1 := ⟨m - 1, by omega⟩
    obtain ⟨hW, hO, h11, e6, h3⟩ := hM
    have hr' : (r : Int) < sg B 6 := by omega
    have ho' : (o : Int) < sg B 6 := by omega
    have nx : pI (q : Nat) + (1 : Int32) = pI (q + 1 : Nat) := by rw [show (1 : Int32) = pI 1 from rfl, pi_add]; rfl
    have c40 : ¬ ((40 : Int32) ≤ pI (q : Nat)) := by rw [show (40 : Int32) = pI 40 from rfl, pi_le (by omega) (by omega) (by omega) (by omega)]; omega
    obtain ⟨B', f1, k1, h⟩ := MK_mod (q := (q : Int)) rfl hO h11 hr' ho' hro h3 hid hg (by omega)
    have h11' : iv B' 174 11 = -1 := by rw [k1 11 (by omega) (by omega) (by omega)]; exact h11
    have go : ∀ A1, g_X10_makes (pI r) (pI g) (pI o) (pI (q : Nat)) B = some (pI 0, B') → (∀ f, g_X3_moveAside_L49 (pI r) (pI g) (pI o) (1 : Int32) (f + 1) (pI (q : Nat)) A = g_X3_moveAside_L49 (pI r) (pI g) (pI o) (1 : Int32) f (pI (q + 1 : Nat)) A1) → fr KD A A1 → MKs r n6 A1 B' → ro (sg B') o 2 = 0 → (∃ A' B'', g_X3_moveAside_L49 (pI r) (pI g) (pI o) (1 : Int32) (f + 1) (pI (q : Nat)) A = some (146, A') ∧ g_X10_makeWay_L85 (pI r) (pI g) (pI o) (1 : Int32) (m + 1) (pI (q : Nat)) B = some (117, B'') ∧ MKf A A' B B'' ∧ MKs r n6 A' B'') ∨ ∃ A' A'' B'', g_X3_moveAside_L49 (pI r) (pI g) (pI o) (1 : Int32) (f + 1) (pI (q : Nat)) A = some (109, A') ∧ g_X3_adopt (pI r) (-1 : Int32) A' = some ((), A'') ∧ g_X10_makeWay_L85 (pI r) (pI g) (pI o) (1 : Int32) (m + 1) (pI (q : Nat)) B = some (109, B'') ∧ MKf A A'' B B'' ∧ WD (sg B'') 1 A'' ∧ OK (sg B'') := fun A1 g1 gc fA hM' hid' => by
      have hf : MKf A A1 B B' := ⟨fA, f1, k1⟩
      have gm : ∀ z, g_X10_makeWay_L85 (pI r) (pI g) (pI o) (1 : Int32) m (pI (q + 1 : Nat)) B' = z → g_X10_makeWay_L85 (pI r) (pI g) (pI o) (1 : Int32) (m + 1) (pI (q : Nat)) B = z := fun z hz => by
        rw [g_X10_makeWay_L85, if_neg c40, if_neg (by decide), g1, am_b_some, if_pos ci0, nx]
        exact hz
      rcases MK_in1 hr ho hro hg d (q + 1) f m A1 B' (by omega) (by omega) (by omega) hM' hid' with ⟨A', B'', p1, p2, p3, p4⟩ | ⟨A', A'', B'', p1, p2, p3, p4, p5, p6⟩
      · exact Or.inl ⟨A', B'', (gc f).trans p1, gm _ p2, MKf_trans hf p3, p4⟩
      · exact Or.inr ⟨A', A'', B'', (gc f).trans p1, p2, gm _ p3, MKf_trans hf p4, p5, p6⟩
    rcases h with ⟨g1, e1, q1⟩ | ⟨α, n, ⟨p1, p2, p3, p4⟩, ⟨g1, e1, q1⟩ | ⟨β, m', g1, e1, q1, q2, q3⟩⟩
    · obtain ⟨A1, gc, fA, hWA⟩ := MK_clsA (a1 := pI r) (a2 := pI g) (q := q) hW hO ho' hid (by omega) q1
      exact go A1 g1 gc fA ⟨by rw [e1]; exact hWA, by rw [e1]; exact hO, h11', by rw [e1]; exact e6, by rw [e1]; exact h3⟩ (by rw [e1]; exact hid)
    · have x1 := MK_fol (α := α) hO hr' ho' hro h3 p3
      have x2 := MK_fol (σ := folF (sg B) o α n) (α := α) (n := 0) p4 (by rw [x1.1]; exact hr') (by rw [x1.1]; exact ho') hro x1.2.1 (by omega)
      obtain ⟨A1, gc, fA, hWA⟩ := (MK_clsB (q := q) hW hO hr' ho' hro h3 hid hg (by omega) p1 p2 p3 p4).1 q1
      exact go A1 g1 gc fA ⟨by rw [e1]; exact hWA, by rw [e1]; exact OK_back hO ho' hid p3 p4, h11', by rw [e1, x2.1, x1.1]; exact e6, by rw [e1]; exact x2.2.1⟩ (by rw [e1]; exact folF_two)
    · have x1 := MK_fol (α := α) hO hr' ho' hro h3 p3
      obtain ⟨A1, A2, gc, ga, fA, hWA⟩ := (MK_clsB (q := q) hW hO hr' ho' hro h3 hid hg (by omega) p1 p2 p3 p4).2 β m' q1 q2 q3
      refine Or.inr ⟨A1, A2, B', gc f, ga, ?_, ⟨fA, f1, k1⟩, by rw [e1]; exact hWA, ?_⟩
      · rw [g_X10_makeWay_L85, if_neg c40, if_neg (by decide), g1, am_b_some, if_neg ci1]
      · rw [e1]
        exact OK_fol p4 (by rw [x1.1]; exact hr') x1.2.1 q3 (rtg_LG p4.2.1 (ro_cell (p4.2.2.2.2.2.1 r (by rw [x1.1]; exact hr')).1) q1)
end SH
